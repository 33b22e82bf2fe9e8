section
-- ===== PART A: goes FIRST, ahead of the names: the tables' words, and 'selects' of the private methods out of them =====
/-- a private method of a class that the tables say can be made, by its rows of tables_1 -/
def lw_okq (q : MethodName × Nat) : Prop := (q.1.cls ≠ "java/lang/invoke/MethodHandle" ∧ q.1.cls ≠ "java/lang/invoke/VarHandle") ∧ Cond.instantiable q.1.cls q.2 ∈ tables_1 ∧ Cond.privateMethod q.1 ∈ tables_1 ∧ Cond.instanceMethod q.1 ∈ tables_1
theorem lw_p0 : lw_okq (⟨"DrawerCabinet", "recordState", "()V"⟩, 8) := ⟨⟨by decide +kernel, by decide +kernel⟩, List.mem_of_getElem? (i := 9) (by decide +kernel), List.mem_of_getElem? (i := 176) (by decide +kernel), List.mem_of_getElem? (i := 177) (by decide +kernel)⟩
theorem lw_p1 : lw_okq (⟨"DrawerCabinet", "dropOldest", "()V"⟩, 8) := ⟨⟨by decide +kernel, by decide +kernel⟩, List.mem_of_getElem? (i := 9) (by decide +kernel), List.mem_of_getElem? (i := 180) (by decide +kernel), List.mem_of_getElem? (i := 181) (by decide +kernel)⟩
theorem lw_p2 : lw_okq (⟨"DrawerCabinet", "canComeTo", "(I)Z"⟩, 8) := ⟨⟨by decide +kernel, by decide +kernel⟩, List.mem_of_getElem? (i := 9) (by decide +kernel), List.mem_of_getElem? (i := 234) (by decide +kernel), List.mem_of_getElem? (i := 235) (by decide +kernel)⟩
theorem lw_p3 : lw_okq (⟨"DrawerCabinet$State", "makeSteps", "()Z"⟩, 15) := ⟨⟨by decide +kernel, by decide +kernel⟩, List.mem_of_getElem? (i := 17) (by decide +kernel), List.mem_of_getElem? (i := 242) (by decide +kernel), List.mem_of_getElem? (i := 243) (by decide +kernel)⟩
theorem lw_p4 : lw_okq (⟨"DrawerCabinet$State", "isLetByHold", "(I)Z"⟩, 15) := ⟨⟨by decide +kernel, by decide +kernel⟩, List.mem_of_getElem? (i := 17) (by decide +kernel), List.mem_of_getElem? (i := 258) (by decide +kernel), List.mem_of_getElem? (i := 259) (by decide +kernel)⟩
theorem lw_p5 : lw_okq (⟨"DrawerCabinet$Plan", "addWayInto", "(LDrawerCabinet$State;I)V"⟩, 3) := ⟨⟨by decide +kernel, by decide +kernel⟩, List.mem_of_getElem? (i := 92) (by decide +kernel), List.mem_of_getElem? (i := 291) (by decide +kernel), List.mem_of_getElem? (i := 292) (by decide +kernel)⟩
theorem lw_p6 : lw_okq (⟨"DrawerCabinet$Plan", "addOpening", "(LDrawerCabinet$State;I)V"⟩, 3) := ⟨⟨by decide +kernel, by decide +kernel⟩, List.mem_of_getElem? (i := 92) (by decide +kernel), List.mem_of_getElem? (i := 296) (by decide +kernel), List.mem_of_getElem? (i := 297) (by decide +kernel)⟩
theorem lw_p7 : lw_okq (⟨"DrawerCabinet$Plan", "addNeedsOfAll", "(LDrawerCabinet$State;)V"⟩, 3) := ⟨⟨by decide +kernel, by decide +kernel⟩, List.mem_of_getElem? (i := 92) (by decide +kernel), List.mem_of_getElem? (i := 319) (by decide +kernel), List.mem_of_getElem? (i := 320) (by decide +kernel)⟩
theorem lw_p8 : lw_okq (⟨"DrawerCabinet$Plan", "addNeedsOfOpening", "(LDrawerCabinet$State;I)V"⟩, 3) := ⟨⟨by decide +kernel, by decide +kernel⟩, List.mem_of_getElem? (i := 92) (by decide +kernel), List.mem_of_getElem? (i := 326) (by decide +kernel), List.mem_of_getElem? (i := 327) (by decide +kernel)⟩
theorem lw_p9 : lw_okq (⟨"DrawerCabinet$Plan", "addTaking", "(LDrawerCabinet$State;I)V"⟩, 3) := ⟨⟨by decide +kernel, by decide +kernel⟩, List.mem_of_getElem? (i := 92) (by decide +kernel), List.mem_of_getElem? (i := 330) (by decide +kernel), List.mem_of_getElem? (i := 331) (by decide +kernel)⟩
theorem lw_p10 : lw_okq (⟨"DrawerCabinet$Plan", "isLiftingIn", "(LDrawerCabinet$State;I)Z"⟩, 3) := ⟨⟨by decide +kernel, by decide +kernel⟩, List.mem_of_getElem? (i := 92) (by decide +kernel), List.mem_of_getElem? (i := 335) (by decide +kernel), List.mem_of_getElem? (i := 336) (by decide +kernel)⟩
theorem lw_p11 : lw_okq (⟨"DrawerCabinet$Plan", "addNeedsOfTaking", "(LDrawerCabinet$State;I)V"⟩, 3) := ⟨⟨by decide +kernel, by decide +kernel⟩, List.mem_of_getElem? (i := 92) (by decide +kernel), List.mem_of_getElem? (i := 339) (by decide +kernel), List.mem_of_getElem? (i := 340) (by decide +kernel)⟩
theorem lw_p12 : lw_okq (⟨"DrawerCabinet", "neverOpened", "()I"⟩, 8) := ⟨⟨by decide +kernel, by decide +kernel⟩, List.mem_of_getElem? (i := 9) (by decide +kernel), List.mem_of_getElem? (i := 373) (by decide +kernel), List.mem_of_getElem? (i := 374) (by decide +kernel)⟩
def lw_privs_1 : List (MethodName × Nat) := [(⟨"DrawerCabinet", "recordState", "()V"⟩, 8), (⟨"DrawerCabinet", "dropOldest", "()V"⟩, 8), (⟨"DrawerCabinet", "canComeTo", "(I)Z"⟩, 8), (⟨"DrawerCabinet$State", "makeSteps", "()Z"⟩, 15), (⟨"DrawerCabinet$State", "isLetByHold", "(I)Z"⟩, 15), (⟨"DrawerCabinet$Plan", "addWayInto", "(LDrawerCabinet$State;I)V"⟩, 3), (⟨"DrawerCabinet$Plan", "addOpening", "(LDrawerCabinet$State;I)V"⟩, 3), (⟨"DrawerCabinet$Plan", "addNeedsOfAll", "(LDrawerCabinet$State;)V"⟩, 3), (⟨"DrawerCabinet$Plan", "addNeedsOfOpening", "(LDrawerCabinet$State;I)V"⟩, 3), (⟨"DrawerCabinet$Plan", "addTaking", "(LDrawerCabinet$State;I)V"⟩, 3), (⟨"DrawerCabinet$Plan", "isLiftingIn", "(LDrawerCabinet$State;I)Z"⟩, 3), (⟨"DrawerCabinet$Plan", "addNeedsOfTaking", "(LDrawerCabinet$State;I)V"⟩, 3), (⟨"DrawerCabinet", "neverOpened", "()I"⟩, 8)]
theorem lw_r1 : ∀ q ∈ lw_privs_1, lw_okq q := List.forall_mem_cons.mpr ⟨lw_p0, List.forall_mem_cons.mpr ⟨lw_p1, List.forall_mem_cons.mpr ⟨lw_p2, List.forall_mem_cons.mpr ⟨lw_p3, List.forall_mem_cons.mpr ⟨lw_p4, List.forall_mem_cons.mpr ⟨lw_p5, List.forall_mem_cons.mpr ⟨lw_p6, List.forall_mem_cons.mpr ⟨lw_p7, List.forall_mem_cons.mpr ⟨lw_p8, List.forall_mem_cons.mpr ⟨lw_p9, List.forall_mem_cons.mpr ⟨lw_p10, List.forall_mem_cons.mpr ⟨lw_p11, List.forall_mem_cons.mpr ⟨lw_p12, fun _ h => absurd h List.not_mem_nil⟩⟩⟩⟩⟩⟩⟩⟩⟩⟩⟩⟩⟩
def lw_privs : List (MethodName × Nat) := lw_privs_1
def lw_tbl : List Cond := k2_sels lw_privs ++ tables_1
theorem lw_privs_ok : ∀ q ∈ lw_privs, lw_okq q := lw_r1
/-- the streams that the claim lets the run draw from -/
abbrev lw_cs : List Choice := [Jvm.Choice.named "NaN.bits"]
theorem lw_bits : nanBits ∈ lw_cs := by first | decide | exact List.mem_cons_self | simp [lw_cs, nanBits]
/-! ===== BEGIN words of one list among another's, by their places ===== -/
theorem goodIn_r {big : List Cond} (ws : List Cond) (ps : List Nat) (hp : ws = ps.filterMap (fun i => big[i]?)) (h : ws.all goodWord = true) : GoodIn big ws := by
  intro w hw
  have h1 := List.all_eq_true.mp h w hw
  rw [hp] at hw
  obtain ⟨i, -, hi⟩ := List.mem_filterMap.mp hw
  have hm : w ∈ big := by first | exact List.mem_of_getElem? hi | exact List.getElem?_mem hi
  exact ⟨hm, good_of_word h1⟩
theorem goodIn_app {big a b : List Cond} (ha : GoodIn big a) (hb : GoodIn big b) : GoodIn big (a ++ b) := fun w h => (List.mem_append.mp h).elim (ha w) (hb w)
theorem goodIn_ca {big a b : List Cond} {c : Cond} (ha : GoodIn big (c :: a)) (hb : GoodIn big b) : GoodIn big (c :: (a ++ b)) := fun w h => (List.mem_cons.mp h).elim (fun e => ha w (List.mem_cons.mpr (Or.inl e))) (fun h => (List.mem_append.mp h).elim (fun h => ha w (List.mem_cons.mpr (Or.inr h))) (hb w))
theorem goodIn_sub {big ws : List Cond} (hm : ∀ w ∈ ws, w ∈ big) (h : ws.all goodWord = true) : GoodIn big ws := fun w hw => ⟨hm w hw, good_of_word (List.all_eq_true.mp h w hw)⟩
/-! ===== END ===== -/

/-! ===== BEGIN printed: names, fields, word lists, decode rows ===== -/
def RX0 : String := "DrawerCabinet$DrawerText"
def TX0 : u_T := fun k => match k with
  | 0 => ("DrawerCabinet$DrawerText", "signs", "[C", true)
  | 1 => ("DrawerCabinet$DrawerText", "length", "I", false)
  | 2 => ("DrawerCabinet$DrawerText", "at", "I", false)
  | 3 => ("DrawerCabinet$DrawerText", "found", "I", false)
  | 4 => ("DrawerCabinet$DrawerText", "outer", "[I", true)
  | 5 => ("DrawerCabinet$DrawerText", "hold", "[I", true)
  | 6 => ("DrawerCabinet$DrawerText", "by", "[I", true)
  | _ => ("DrawerCabinet$DrawerText", "bottoms", "[I", true)
def tyX0 : Nat → FieldType := fun k => match k with
  | 0 => .array .char
  | 1 => .int
  | 2 => .int
  | 3 => .int
  | 4 => .array .int
  | 5 => .array .int
  | 6 => .array .int
  | _ => .array .int
abbrev wsX00 : List Cond := u_ws RX0 TX0 8
theorem nmX0 : ∀ a, a < 8 → ∀ b, b < 8 → a ≠ b → (TX0 a).2.1 ≠ (TX0 b).2.1 := by decide +kernel
theorem tyX0_ok : ∀ k, k < 8 → parseFieldDescriptor (TX0 k).2.2.1 = some (tyX0 k) := by decide +kernel
abbrev cX0_init : ByteArray := prog_2_method_1_code
def yX0_init : MethodName := ⟨RX0, "<init>", "()V"⟩
def RX1 : String := "DrawerCabinet$Plan"
def TX1 : u_T := fun k => match k with
  | 0 => ("DrawerCabinet$Plan", "openings", "I", false)
  | 1 => ("DrawerCabinet$Plan", "takings", "I", false)
  | _ => ("DrawerCabinet$Plan", "liftedTo", "[I", true)
def tyX1 : Nat → FieldType := fun k => match k with
  | 0 => .int
  | 1 => .int
  | _ => .array .int
abbrev wsX10 : List Cond := u_ws RX1 TX1 3
theorem nmX1 : ∀ a, a < 3 → ∀ b, b < 3 → a ≠ b → (TX1 a).2.1 ≠ (TX1 b).2.1 := by decide +kernel
theorem tyX1_ok : ∀ k, k < 3 → parseFieldDescriptor (TX1 k).2.2.1 = some (tyX1 k) := by decide +kernel
abbrev cX1_init : ByteArray := prog_3_method_1_code
def yX1_init : MethodName := ⟨RX1, "<init>", "()V"⟩
abbrev cX1_make : ByteArray := prog_3_method_2_code
def yX1_make : MethodName := ⟨RX1, "make", "(LDrawerCabinet$State;I)V"⟩
abbrev cX1_countSteps : ByteArray := prog_3_method_3_code
def yX1_countSteps : MethodName := ⟨RX1, "countSteps", "(LDrawerCabinet$State;)I"⟩
abbrev cX1_countLiftings : ByteArray := prog_3_method_4_code
def yX1_countLiftings : MethodName := ⟨RX1, "countLiftings", "(LDrawerCabinet$State;)I"⟩
abbrev cX1_firstStep : ByteArray := prog_3_method_5_code
def yX1_firstStep : MethodName := ⟨RX1, "firstStep", "(LDrawerCabinet$State;)I"⟩
abbrev cX1_isLiftingIn : ByteArray := prog_3_method_6_code
def yX1_isLiftingIn : MethodName := ⟨RX1, "isLiftingIn", "(LDrawerCabinet$State;I)Z"⟩
abbrev cX1_addNeedsOfAll : ByteArray := prog_3_method_7_code
def yX1_addNeedsOfAll : MethodName := ⟨RX1, "addNeedsOfAll", "(LDrawerCabinet$State;)V"⟩
abbrev cX1_addWayInto : ByteArray := prog_3_method_8_code
def yX1_addWayInto : MethodName := ⟨RX1, "addWayInto", "(LDrawerCabinet$State;I)V"⟩
abbrev cX1_addNeedsOfOpening : ByteArray := prog_3_method_9_code
def yX1_addNeedsOfOpening : MethodName := ⟨RX1, "addNeedsOfOpening", "(LDrawerCabinet$State;I)V"⟩
abbrev cX1_addNeedsOfTaking : ByteArray := prog_3_method_10_code
def yX1_addNeedsOfTaking : MethodName := ⟨RX1, "addNeedsOfTaking", "(LDrawerCabinet$State;I)V"⟩
abbrev cX1_addOpening : ByteArray := prog_3_method_11_code
def yX1_addOpening : MethodName := ⟨RX1, "addOpening", "(LDrawerCabinet$State;I)V"⟩
abbrev cX1_addTaking : ByteArray := prog_3_method_12_code
def yX1_addTaking : MethodName := ⟨RX1, "addTaking", "(LDrawerCabinet$State;I)V"⟩
def RX2 : String := "DrawerCabinet$State"
def TX2 : u_T := fun k => match k with
  | 0 => ("DrawerCabinet$State", "drawers", "I", false)
  | 1 => ("DrawerCabinet$State", "game", "Z", false)
  | 2 => ("DrawerCabinet$State", "steps", "I", false)
  | 3 => ("DrawerCabinet$State", "quarters", "I", false)
  | 4 => ("DrawerCabinet$State", "opened", "I", false)
  | 5 => ("DrawerCabinet$State", "broken", "I", false)
  | 6 => ("DrawerCabinet$State", "inHand", "I", false)
  | 7 => ("DrawerCabinet$State", "outer", "[I", true)
  | 8 => ("DrawerCabinet$State", "hold", "[I", true)
  | 9 => ("DrawerCabinet$State", "by", "[I", true)
  | 10 => ("DrawerCabinet$State", "stiffness", "[I", true)
  | 11 => ("DrawerCabinet$State", "bottoms", "[I", true)
  | 12 => ("DrawerCabinet$State", "lifted", "[I", true)
  | 13 => ("DrawerCabinet$State", "place", "[I", true)
  | _ => ("DrawerCabinet$State", "depth", "[I", true)
def tyX2 : Nat → FieldType := fun k => match k with
  | 0 => .int
  | 1 => .boolean
  | 2 => .int
  | 3 => .int
  | 4 => .int
  | 5 => .int
  | 6 => .int
  | 7 => .array .int
  | 8 => .array .int
  | 9 => .array .int
  | 10 => .array .int
  | 11 => .array .int
  | 12 => .array .int
  | 13 => .array .int
  | _ => .array .int
abbrev wsX20 : List Cond := u_ws RX2 TX2 15
theorem nmX2 : ∀ a, a < 15 → ∀ b, b < 15 → a ≠ b → (TX2 a).2.1 ≠ (TX2 b).2.1 := by decide +kernel
theorem tyX2_ok : ∀ k, k < 15 → parseFieldDescriptor (TX2 k).2.2.1 = some (tyX2 k) := by decide +kernel
abbrev cX2_init : ByteArray := prog_4_method_1_code
def yX2_init : MethodName := ⟨RX2, "<init>", "()V"⟩
abbrev cX2_copyFrom : ByteArray := prog_4_method_2_code
def yX2_copyFrom : MethodName := ⟨RX2, "copyFrom", "(LDrawerCabinet$State;)V"⟩
abbrev cX2_addDrawer : ByteArray := prog_4_method_3_code
def yX2_addDrawer : MethodName := ⟨RX2, "addDrawer", "(IIIII)V"⟩
abbrev cX2_changeBottoms : ByteArray := prog_4_method_4_code
def yX2_changeBottoms : MethodName := ⟨RX2, "changeBottoms", "(II)V"⟩
abbrev cX2_putBack : ByteArray := prog_4_method_5_code
def yX2_putBack : MethodName := ⟨RX2, "putBack", "()V"⟩
abbrev cX2_isThere : ByteArray := prog_4_method_6_code
def yX2_isThere : MethodName := ⟨RX2, "isThere", "(I)Z"⟩
abbrev cX2_isOpen : ByteArray := prog_4_method_7_code
def yX2_isOpen : MethodName := ⟨RX2, "isOpen", "(I)Z"⟩
abbrev cX2_isInHand : ByteArray := prog_4_method_8_code
def yX2_isInHand : MethodName := ⟨RX2, "isInHand", "(I)Z"⟩
abbrev cX2_isReached : ByteArray := prog_4_method_9_code
def yX2_isReached : MethodName := ⟨RX2, "isReached", "(I)Z"⟩
abbrev cX2_canOpen : ByteArray := prog_4_method_10_code
def yX2_canOpen : MethodName := ⟨RX2, "canOpen", "(I)Z"⟩
abbrev cX2_isLetByHold : ByteArray := prog_4_method_11_code
def yX2_isLetByHold : MethodName := ⟨RX2, "isLetByHold", "(I)Z"⟩
abbrev cX2_hasBottomLeft : ByteArray := prog_4_method_12_code
def yX2_hasBottomLeft : MethodName := ⟨RX2, "hasBottomLeft", "(I)Z"⟩
abbrev cX2_canLift : ByteArray := prog_4_method_13_code
def yX2_canLift : MethodName := ⟨RX2, "canLift", "(I)Z"⟩
abbrev cX2_canTake : ByteArray := prog_4_method_14_code
def yX2_canTake : MethodName := ⟨RX2, "canTake", "(I)Z"⟩
abbrev cX2_canSeal : ByteArray := prog_4_method_15_code
def yX2_canSeal : MethodName := ⟨RX2, "canSeal", "(I)Z"⟩
abbrev cX2_setOpen : ByteArray := prog_4_method_16_code
def yX2_setOpen : MethodName := ⟨RX2, "setOpen", "(I)V"⟩
abbrev cX2_addStep : ByteArray := prog_4_method_17_code
def yX2_addStep : MethodName := ⟨RX2, "addStep", "(I)V"⟩
abbrev cX2_makeAllSteps : ByteArray := prog_4_method_18_code
def yX2_makeAllSteps : MethodName := ⟨RX2, "makeAllSteps", "()V"⟩
abbrev cX2_makeSteps : ByteArray := prog_4_method_19_code
def yX2_makeSteps : MethodName := ⟨RX2, "makeSteps", "()Z"⟩
abbrev cX2_hasAllHolders : ByteArray := prog_4_method_20_code
def yX2_hasAllHolders : MethodName := ⟨RX2, "hasAllHolders", "()Z"⟩
abbrev cX2_openableNow : ByteArray := prog_4_method_21_code
def yX2_openableNow : MethodName := ⟨RX2, "openableNow", "()I"⟩
abbrev cX2_countWholeSeals : ByteArray := prog_4_method_22_code
def yX2_countWholeSeals : MethodName := ⟨RX2, "countWholeSeals", "(I)I"⟩
abbrev cX2_countThingsInDrawers : ByteArray := prog_4_method_23_code
def yX2_countThingsInDrawers : MethodName := ⟨RX2, "countThingsInDrawers", "()I"⟩
abbrev cX2_countThingsIn : ByteArray := prog_4_method_24_code
def yX2_countThingsIn : MethodName := ⟨RX2, "countThingsIn", "(I)I"⟩
abbrev cX2_countOuters : ByteArray := prog_4_method_25_code
def yX2_countOuters : MethodName := ⟨RX2, "countOuters", "(I)I"⟩
def RX3 : String := "DrawerCabinet"
def TX3 : u_T := fun k => match k with
  | 0 => ("DrawerCabinet", "now", "LDrawerCabinet$State;", true)
  | 1 => ("DrawerCabinet", "snapshot", "LDrawerCabinet$State;", true)
  | 2 => ("DrawerCabinet", "trial", "LDrawerCabinet$State;", true)
  | 3 => ("DrawerCabinet", "history", "[LDrawerCabinet$State;", true)
  | 4 => ("DrawerCabinet", "plan", "LDrawerCabinet$Plan;", true)
  | 5 => ("DrawerCabinet", "text", "LDrawerCabinet$DrawerText;", true)
  | 6 => ("DrawerCabinet", "past", "I", false)
  | _ => ("DrawerCabinet", "kept", "Z", false)
def tyX3 : Nat → FieldType := fun k => match k with
  | 0 => .object "DrawerCabinet$State"
  | 1 => .object "DrawerCabinet$State"
  | 2 => .object "DrawerCabinet$State"
  | 3 => .array (.object "DrawerCabinet$State")
  | 4 => .object "DrawerCabinet$Plan"
  | 5 => .object "DrawerCabinet$DrawerText"
  | 6 => .int
  | _ => .boolean
abbrev wsX30 : List Cond := u_ws RX3 TX3 8
theorem nmX3 : ∀ a, a < 8 → ∀ b, b < 8 → a ≠ b → (TX3 a).2.1 ≠ (TX3 b).2.1 := by decide +kernel
theorem tyX3_ok : ∀ k, k < 8 → parseFieldDescriptor (TX3 k).2.2.1 = some (tyX3 k) := by decide +kernel
abbrev cX3_init : ByteArray := prog_1_method_1_code
def yX3_init : MethodName := ⟨RX3, "<init>", "()V"⟩
abbrev cX3_build : ByteArray := prog_1_method_2_code
def yX3_build : MethodName := ⟨RX3, "build", "(IIII)I"⟩
abbrev cX3_setBottoms : ByteArray := prog_1_method_4_code
def yX3_setBottoms : MethodName := ⟨RX3, "setBottoms", "(II)I"⟩
abbrev cX3_lay : ByteArray := prog_1_method_5_code
def yX3_lay : MethodName := ⟨RX3, "lay", "(III)I"⟩
abbrev cX3_begin : ByteArray := prog_1_method_6_code
def yX3_begin : MethodName := ⟨RX3, "begin", "()I"⟩
abbrev cX3_giveUp : ByteArray := prog_1_method_7_code
def yX3_giveUp : MethodName := ⟨RX3, "giveUp", "()I"⟩
abbrev cX3_open : ByteArray := prog_1_method_8_code
def yX3_open : MethodName := ⟨RX3, "open", "(I)I"⟩
abbrev cX3_close : ByteArray := prog_1_method_9_code
def yX3_close : MethodName := ⟨RX3, "close", "(I)I"⟩
abbrev cX3_lift : ByteArray := prog_1_method_10_code
def yX3_lift : MethodName := ⟨RX3, "lift", "(I)I"⟩
abbrev cX3_take : ByteArray := prog_1_method_11_code
def yX3_take : MethodName := ⟨RX3, "take", "(I)I"⟩
abbrev cX3_seal : ByteArray := prog_1_method_12_code
def yX3_seal : MethodName := ⟨RX3, "seal", "(I)I"⟩
abbrev cX3_undo : ByteArray := prog_1_method_15_code
def yX3_undo : MethodName := ⟨RX3, "undo", "()I"⟩
abbrev cX3_drawer : ByteArray := prog_1_method_18_code
def yX3_drawer : MethodName := ⟨RX3, "drawer", "(II)I"⟩
abbrev cX3_thing : ByteArray := prog_1_method_19_code
def yX3_thing : MethodName := ⟨RX3, "thing", "(II)I"⟩
abbrev cX3_needs : ByteArray := prog_1_method_20_code
def yX3_needs : MethodName := ⟨RX3, "needs", "(II)I"⟩
abbrev cX3_hint : ByteArray := prog_1_method_21_code
def yX3_hint : MethodName := ⟨RX3, "hint", "(I)I"⟩
abbrev cX3_minutes : ByteArray := prog_1_method_22_code
def yX3_minutes : MethodName := ⟨RX3, "minutes", "()D"⟩
abbrev cX3_minutesBits : ByteArray := prog_1_method_23_code
def yX3_minutesBits : MethodName := ⟨RX3, "minutesBits", "()I"⟩
abbrev cX3_count : ByteArray := prog_1_method_24_code
def yX3_count : MethodName := ⟨RX3, "count", "(I)I"⟩
abbrev cX3_isHold : ByteArray := prog_1_method_25_code
def yX3_isHold : MethodName := ⟨RX3, "isHold", "(II)Z"⟩
abbrev cX3_isThing : ByteArray := prog_1_method_26_code
def yX3_isThing : MethodName := ⟨RX3, "isThing", "(I)Z"⟩
abbrev cX3_oneIf : ByteArray := prog_1_method_27_code
def yX3_oneIf : MethodName := ⟨RX3, "oneIf", "(Z)I"⟩
abbrev cX3_bit : ByteArray := prog_1_method_28_code
def yX3_bit : MethodName := ⟨RX3, "bit", "(I)I"⟩
abbrev cX3_isIn : ByteArray := prog_1_method_29_code
def yX3_isIn : MethodName := ⟨RX3, "isIn", "(II)Z"⟩
abbrev cX3_bitsOf : ByteArray := prog_1_method_30_code
def yX3_bitsOf : MethodName := ⟨RX3, "bitsOf", "(F)I"⟩
abbrev cX3_recordState : ByteArray := prog_1_method_31_code
def yX3_recordState : MethodName := ⟨RX3, "recordState", "()V"⟩
abbrev cX3_dropOldest : ByteArray := prog_1_method_32_code
def yX3_dropOldest : MethodName := ⟨RX3, "dropOldest", "()V"⟩
abbrev cX3_copyState : ByteArray := prog_1_method_33_code
def yX3_copyState : MethodName := ⟨RX3, "copyState", "(LDrawerCabinet$State;LDrawerCabinet$State;)V"⟩
abbrev cX3_canComeTo : ByteArray := prog_1_method_34_code
def yX3_canComeTo : MethodName := ⟨RX3, "canComeTo", "(I)Z"⟩
abbrev cX3_neverOpened : ByteArray := prog_1_method_35_code
def yX3_neverOpened : MethodName := ⟨RX3, "neverOpened", "()I"⟩
def RX4 : String := "DrawerCabinetModel"
def TX4 : u_T := fun k => match k with
  | _ => ("", "", "", false)
def tyX4 : Nat → FieldType := fun k => match k with
  | _ => .int
abbrev wsX40 : List Cond := u_ws RX4 TX4 0
theorem nmX4 : ∀ a, a < 0 → ∀ b, b < 0 → a ≠ b → (TX4 a).2.1 ≠ (TX4 b).2.1 := by decide +kernel
theorem tyX4_ok : ∀ k, k < 0 → parseFieldDescriptor (TX4 k).2.2.1 = some (tyX4 k) := by decide +kernel
def RJ6 : String := "java/lang/Integer"
def TJ6 : u_T := fun k => match k with
  | _ => ("", "", "", false)
def tyJ6 : Nat → FieldType := fun k => match k with
  | _ => .int
abbrev wsJ60 : List Cond := u_ws RJ6 TJ6 0
theorem nmJ6 : ∀ a, a < 0 → ∀ b, b < 0 → a ≠ b → (TJ6 a).2.1 ≠ (TJ6 b).2.1 := by decide +kernel
theorem tyJ6_ok : ∀ k, k < 0 → parseFieldDescriptor (TJ6 k).2.2.1 = some (tyJ6 k) := by decide +kernel
abbrev cJ6_bitCount_0f7a4 : ByteArray := prog_7_method_49_code
def yJ6_bitCount_0f7a4 : MethodName := ⟨RJ6, "bitCount", "(I)I"⟩
def RJ9 : String := "java/lang/Math"
def TJ9 : u_T := fun k => match k with
  | _ => ("", "", "", false)
def tyJ9 : Nat → FieldType := fun k => match k with
  | _ => .int
abbrev wsJ90 : List Cond := u_ws RJ9 TJ9 0
theorem nmJ9 : ∀ a, a < 0 → ∀ b, b < 0 → a ≠ b → (TJ9 a).2.1 ≠ (TJ9 b).2.1 := by decide +kernel
theorem tyJ9_ok : ∀ k, k < 0 → parseFieldDescriptor (TJ9 k).2.2.1 = some (tyJ9 k) := by decide +kernel
abbrev cJ9_max_7cf53 : ByteArray := prog_8_method_65_code
def yJ9_max_7cf53 : MethodName := ⟨RJ9, "max", "(II)I"⟩
def RJ10 : String := "java/lang/System"
def TJ10 : u_T := fun k => match k with
  | _ => ("", "", "", false)
def tyJ10 : Nat → FieldType := fun k => match k with
  | _ => .int
abbrev wsJ100 : List Cond := u_ws RJ10 TJ10 0
theorem nmJ10 : ∀ a, a < 0 → ∀ b, b < 0 → a ≠ b → (TJ10 a).2.1 ≠ (TJ10 b).2.1 := by decide +kernel
theorem tyJ10_ok : ∀ k, k < 0 → parseFieldDescriptor (TJ10 k).2.2.1 = some (tyJ10 k) := by decide +kernel
def RL : String := "DrawerCabinetLaw"
abbrev cL_cell : ByteArray := method_2_code
def yL_cell : MethodName := ⟨RL, "cell", "([II)I"⟩
abbrev cL_bits : ByteArray := method_3_code
def yL_bits : MethodName := ⟨RL, "bits", "(I)I"⟩
abbrev cL_isNeeded : ByteArray := method_4_code
def yL_isNeeded : MethodName := ⟨RL, "isNeeded", "(LDrawerCabinet;I)Z"⟩
abbrev cL_goes : ByteArray := method_5_code
def yL_goes : MethodName := ⟨RL, "goes", "(LDrawerCabinet;I)Z"⟩
abbrev cL_builds : ByteArray := method_6_code
def yL_builds : MethodName := ⟨RL, "builds", "(LDrawerCabinet;[I)Z"⟩
abbrev cL_isAll : ByteArray := method_7_code
def yL_isAll : MethodName := ⟨RL, "isAll", "(LDrawerCabinet;)Z"⟩
abbrev cL_acts : ByteArray := method_8_code
def yL_acts : MethodName := ⟨RL, "acts", "(LDrawerCabinet;I)Z"⟩
abbrev cL_law : ByteArray := code
def yL_law : MethodName := ⟨RL, "law", "([I)Z"⟩
abbrev vwCl : List vw_C := [(RX0, TX0, 8), (RX1, TX1, 3), (RX2, TX2, 15), (RX3, TX3, 8)]
/-! my tables: classes, methods, links -/
def CN : Nat → String := fun k => match k with
  | 0 => RX0
  | 1 => RX1
  | 2 => RX2
  | 3 => RX3
  | 4 => RJ6
  | 5 => RJ9
  | 6 => RJ10
  | _ => RL
def MT_0 : List (Nat × MethodName × ByteArray × Nat × Option FieldType × Nat) := [(0, yX0_init, cX0_init, 1, none, 0),
  (1, yX1_init, cX1_init, 1, none, 0),
  (1, yX1_make, cX1_make, 5, none, 2),
  (1, yX1_countSteps, cX1_countSteps, 2, (some .int), 1),
  (1, yX1_countLiftings, cX1_countLiftings, 4, (some .int), 1),
  (1, yX1_firstStep, cX1_firstStep, 4, (some .int), 1),
  (1, yX1_isLiftingIn, cX1_isLiftingIn, 3, (some .boolean), 2),
  (1, yX1_addNeedsOfAll, cX1_addNeedsOfAll, 3, none, 1),
  (1, yX1_addWayInto, cX1_addWayInto, 5, none, 2),
  (1, yX1_addNeedsOfOpening, cX1_addNeedsOfOpening, 3, none, 2),
  (1, yX1_addNeedsOfTaking, cX1_addNeedsOfTaking, 4, none, 2),
  (1, yX1_addOpening, cX1_addOpening, 3, none, 2),
  (1, yX1_addTaking, cX1_addTaking, 3, none, 2)]
def MT_1 : List (Nat × MethodName × ByteArray × Nat × Option FieldType × Nat) := [(2, yX2_init, cX2_init, 2, none, 0),
  (2, yX2_copyFrom, cX2_copyFrom, 2, none, 1),
  (2, yX2_addDrawer, cX2_addDrawer, 6, none, 5),
  (2, yX2_changeBottoms, cX2_changeBottoms, 4, none, 2),
  (2, yX2_putBack, cX2_putBack, 2, none, 0),
  (2, yX2_isThere, cX2_isThere, 2, (some .boolean), 1),
  (2, yX2_isOpen, cX2_isOpen, 2, (some .boolean), 1),
  (2, yX2_isInHand, cX2_isInHand, 2, (some .boolean), 1),
  (2, yX2_isReached, cX2_isReached, 4, (some .boolean), 1),
  (2, yX2_canOpen, cX2_canOpen, 2, (some .boolean), 1),
  (2, yX2_isLetByHold, cX2_isLetByHold, 2, (some .boolean), 1),
  (2, yX2_hasBottomLeft, cX2_hasBottomLeft, 2, (some .boolean), 1),
  (2, yX2_canLift, cX2_canLift, 2, (some .boolean), 1)]
def MT_2 : List (Nat × MethodName × ByteArray × Nat × Option FieldType × Nat) := [(2, yX2_canTake, cX2_canTake, 3, (some .boolean), 1),
  (2, yX2_canSeal, cX2_canSeal, 2, (some .boolean), 1),
  (2, yX2_setOpen, cX2_setOpen, 2, none, 1),
  (2, yX2_addStep, cX2_addStep, 2, none, 1),
  (2, yX2_makeAllSteps, cX2_makeAllSteps, 3, none, 0),
  (2, yX2_makeSteps, cX2_makeSteps, 3, (some .boolean), 0),
  (2, yX2_hasAllHolders, cX2_hasAllHolders, 2, (some .boolean), 0),
  (2, yX2_openableNow, cX2_openableNow, 3, (some .int), 0),
  (2, yX2_countWholeSeals, cX2_countWholeSeals, 4, (some .int), 1),
  (2, yX2_countThingsInDrawers, cX2_countThingsInDrawers, 3, (some .int), 0),
  (2, yX2_countThingsIn, cX2_countThingsIn, 4, (some .int), 1),
  (2, yX2_countOuters, cX2_countOuters, 4, (some .int), 1),
  (3, yX3_init, cX3_init, 2, none, 0)]
def MT_3 : List (Nat × MethodName × ByteArray × Nat × Option FieldType × Nat) := [(3, yX3_build, cX3_build, 5, (some .int), 4),
  (3, yX3_setBottoms, cX3_setBottoms, 4, (some .int), 2),
  (3, yX3_lay, cX3_lay, 5, (some .int), 3),
  (3, yX3_begin, cX3_begin, 1, (some .int), 0),
  (3, yX3_giveUp, cX3_giveUp, 2, (some .int), 0),
  (3, yX3_open, cX3_open, 2, (some .int), 1),
  (3, yX3_close, cX3_close, 2, (some .int), 1),
  (3, yX3_lift, cX3_lift, 2, (some .int), 1),
  (3, yX3_take, cX3_take, 2, (some .int), 1),
  (3, yX3_seal, cX3_seal, 2, (some .int), 1),
  (3, yX3_undo, cX3_undo, 1, (some .int), 0),
  (3, yX3_drawer, cX3_drawer, 3, (some .int), 2),
  (3, yX3_thing, cX3_thing, 4, (some .int), 2)]
def MT_4 : List (Nat × MethodName × ByteArray × Nat × Option FieldType × Nat) := [(3, yX3_needs, cX3_needs, 3, (some .int), 2),
  (3, yX3_hint, cX3_hint, 2, (some .int), 1),
  (3, yX3_minutes, cX3_minutes, 1, (some .double), 0),
  (3, yX3_minutesBits, cX3_minutesBits, 1, (some .int), 0),
  (3, yX3_count, cX3_count, 2, (some .int), 1),
  (3, yX3_isHold, cX3_isHold, 2, (some .boolean), 2),
  (3, yX3_isThing, cX3_isThing, 1, (some .boolean), 1),
  (3, yX3_oneIf, cX3_oneIf, 1, (some .int), 1),
  (3, yX3_bit, cX3_bit, 1, (some .int), 1),
  (3, yX3_isIn, cX3_isIn, 2, (some .boolean), 2),
  (3, yX3_bitsOf, cX3_bitsOf, 4, (some .int), 1),
  (3, yX3_recordState, cX3_recordState, 1, none, 0),
  (3, yX3_dropOldest, cX3_dropOldest, 3, none, 0)]
def MT_5 : List (Nat × MethodName × ByteArray × Nat × Option FieldType × Nat) := [(3, yX3_copyState, cX3_copyState, 2, none, 2),
  (3, yX3_canComeTo, cX3_canComeTo, 2, (some .boolean), 1),
  (3, yX3_neverOpened, cX3_neverOpened, 1, (some .int), 0),
  (4, yJ6_bitCount_0f7a4, cJ6_bitCount_0f7a4, 1, (some .int), 1),
  (5, yJ9_max_7cf53, cJ9_max_7cf53, 2, (some .int), 2),
  (7, yL_cell, cL_cell, 2, (some .int), 2),
  (7, yL_bits, cL_bits, 3, (some .int), 1),
  (7, yL_isNeeded, cL_isNeeded, 9, (some .boolean), 2),
  (7, yL_goes, cL_goes, 9, (some .boolean), 2),
  (7, yL_builds, cL_builds, 8, (some .boolean), 2),
  (7, yL_isAll, cL_isAll, 8, (some .boolean), 1),
  (7, yL_acts, cL_acts, 9, (some .boolean), 2),
  (7, yL_law, cL_law, 6, (some .boolean), 1)]
def MT : List (Nat × MethodName × ByteArray × Nat × Option FieldType × Nat) := MT_0 ++ (MT_1 ++ (MT_2 ++ (MT_3 ++ (MT_4 ++ (MT_5)))))
/-- the number of methods, the law the last one -/
abbrev NM : Nat := 78
abbrev yLAW : Nat := 77
def mrow (y : Nat) : Nat × MethodName × ByteArray × Nat × Option FieldType × Nat := MT.getD y (0, yL_law, cL_law, 0, none, 0)
def mown (y : Nat) : Nat := (mrow y).1
def mnm (y : Nat) : MethodName := (mrow y).2.1
def mcd (y : Nat) : ByteArray := (mrow y).2.2.1
def mml (y : Nat) : Nat := (mrow y).2.2.2.1
def mrt (y : Nat) : Option FieldType := (mrow y).2.2.2.2.1
def mna (y : Nat) : Nat := (mrow y).2.2.2.2.2
/-! the numbers of the methods -/
abbrev nX0_init : Nat := 0
abbrev nX1_init : Nat := 1
abbrev nX1_make : Nat := 2
abbrev nX1_countSteps : Nat := 3
abbrev nX1_countLiftings : Nat := 4
abbrev nX1_firstStep : Nat := 5
abbrev nX1_isLiftingIn : Nat := 6
abbrev nX1_addNeedsOfAll : Nat := 7
abbrev nX1_addWayInto : Nat := 8
abbrev nX1_addNeedsOfOpening : Nat := 9
abbrev nX1_addNeedsOfTaking : Nat := 10
abbrev nX1_addOpening : Nat := 11
abbrev nX1_addTaking : Nat := 12
abbrev nX2_init : Nat := 13
abbrev nX2_copyFrom : Nat := 14
abbrev nX2_addDrawer : Nat := 15
abbrev nX2_changeBottoms : Nat := 16
abbrev nX2_putBack : Nat := 17
abbrev nX2_isThere : Nat := 18
abbrev nX2_isOpen : Nat := 19
abbrev nX2_isInHand : Nat := 20
abbrev nX2_isReached : Nat := 21
abbrev nX2_canOpen : Nat := 22
abbrev nX2_isLetByHold : Nat := 23
abbrev nX2_hasBottomLeft : Nat := 24
abbrev nX2_canLift : Nat := 25
abbrev nX2_canTake : Nat := 26
abbrev nX2_canSeal : Nat := 27
abbrev nX2_setOpen : Nat := 28
abbrev nX2_addStep : Nat := 29
abbrev nX2_makeAllSteps : Nat := 30
abbrev nX2_makeSteps : Nat := 31
abbrev nX2_hasAllHolders : Nat := 32
abbrev nX2_openableNow : Nat := 33
abbrev nX2_countWholeSeals : Nat := 34
abbrev nX2_countThingsInDrawers : Nat := 35
abbrev nX2_countThingsIn : Nat := 36
abbrev nX2_countOuters : Nat := 37
abbrev nX3_init : Nat := 38
abbrev nX3_build : Nat := 39
abbrev nX3_setBottoms : Nat := 40
abbrev nX3_lay : Nat := 41
abbrev nX3_begin : Nat := 42
abbrev nX3_giveUp : Nat := 43
abbrev nX3_open : Nat := 44
abbrev nX3_close : Nat := 45
abbrev nX3_lift : Nat := 46
abbrev nX3_take : Nat := 47
abbrev nX3_seal : Nat := 48
abbrev nX3_undo : Nat := 49
abbrev nX3_drawer : Nat := 50
abbrev nX3_thing : Nat := 51
abbrev nX3_needs : Nat := 52
abbrev nX3_hint : Nat := 53
abbrev nX3_minutes : Nat := 54
abbrev nX3_minutesBits : Nat := 55
abbrev nX3_count : Nat := 56
abbrev nX3_isHold : Nat := 57
abbrev nX3_isThing : Nat := 58
abbrev nX3_oneIf : Nat := 59
abbrev nX3_bit : Nat := 60
abbrev nX3_isIn : Nat := 61
abbrev nX3_bitsOf : Nat := 62
abbrev nX3_recordState : Nat := 63
abbrev nX3_dropOldest : Nat := 64
abbrev nX3_copyState : Nat := 65
abbrev nX3_canComeTo : Nat := 66
abbrev nX3_neverOpened : Nat := 67
abbrev nJ6_bitCount_0f7a4 : Nat := 68
abbrev nJ9_max_7cf53 : Nat := 69
abbrev nL_cell : Nat := 70
abbrev nL_bits : Nat := 71
abbrev nL_isNeeded : Nat := 72
abbrev nL_goes : Nat := 73
abbrev nL_builds : Nat := 74
abbrev nL_isAll : Nat := 75
abbrev nL_acts : Nat := 76
abbrev nL_law : Nat := 77
/-! calls: by class, a place of the constant pool, the kind of the call, the method -/
def LK_0 : List (Nat × Nat × Nat) := [(3, 5, 0)]
def LK_1 : List (Nat × Nat × Nat) := [(3, 5, 0), (22, 0, 8), (26, 0, 3), (30, 0, 7), (34, 1, 68), (40, 0, 4), (48, 8, 69), (54, 0, 33), (58, 3, 61), (62, 0, 26), (66, 0, 6), (70, 0, 25), (73, 0, 9), (76, 0, 12), (79, 0, 10), (82, 0, 18), (85, 0, 11), (103, 0, 19), (106, 3, 60), (109, 0, 20)]
def LK_2 : List (Nat × Nat × Nat) := [(3, 5, 0), (59, 6, 0), (65, 0, 18), (69, 0, 19), (72, 0, 21), (75, 0, 23), (78, 0, 20), (81, 0, 24), (84, 3, 61), (88, 3, 60), (92, 0, 31), (96, 0, 22), (99, 0, 28), (103, 0, 25), (106, 0, 26)]
def LK_3 : List (Nat × Nat × Nat) := [(3, 5, 0), (11, 2, 13), (28, 4, 1), (35, 4, 0), (48, 0, 18), (52, 1, 57), (62, 0, 63), (65, 0, 15), (93, 0, 16), (97, 1, 58), (106, 0, 35), (109, 0, 32), (113, 0, 17), (119, 0, 19), (122, 0, 22), (125, 0, 28), (132, 0, 29), (138, 1, 68), (144, 0, 21), (147, 1, 60), (150, 0, 24), (153, 0, 25), (159, 0, 20), (162, 0, 26), (171, 1, 61), (174, 0, 27), (184, 1, 65), (191, 1, 59), (195, 0, 36), (198, 0, 37), (201, 0, 66), (204, 0, 2), (208, 0, 3), (218, 0, 4), (221, 0, 34), (224, 0, 5), (234, 0, 54), (238, 1, 62), (242, 0, 67), (245, 0, 33), (249, 0, 64), (252, 0, 14), (256, 0, 30)]
def LK_4 : List (Nat × Nat × Nat) := []
def LK_5 : List (Nat × Nat × Nat) := []
def LK_6 : List (Nat × Nat × Nat) := []
def LK_7 : List (Nat × Nat × Nat) := [(9, 0, 52), (15, 0, 53), (19, 1, 71), (24, 0, 56), (27, 0, 50), (30, 0, 51), (33, 0, 54), (37, 0, 44), (42, 0, 47), (47, 0, 46), (52, 1, 70), (56, 0, 39), (60, 0, 40), (63, 0, 41), (67, 0, 45), (70, 0, 48), (73, 2, 38), (74, 0, 42), (78, 0, 49), (81, 1, 74), (85, 0, 55), (88, 1, 72), (92, 1, 73), (95, 1, 76), (98, 1, 75), (102, 0, 43)]
def LK (own : Nat) : List (Nat × Nat × Nat) := match own with
  | 0 => LK_0
  | 1 => LK_1
  | 2 => LK_2
  | 3 => LK_3
  | 4 => LK_4
  | 5 => LK_5
  | 6 => LK_6
  | _ => LK_7
def lnk (own ix : Nat) : Option (Nat × Nat) := ((LK own).find? (fun e => e.1 == ix)).map (·.2)
/-! fields: by class, a place of the constant pool, the class of the field, its place there -/
def FK_0 : List (Nat × Nat × Nat) := [(9, 0, 0), (15, 0, 4), (19, 0, 5), (22, 0, 6), (25, 0, 7)]
def FK_1 : List (Nat × Nat × Nat) := [(88, 2, 7), (91, 2, 8), (94, 2, 9), (43, 2, 12), (97, 2, 13), (100, 2, 14), (15, 1, 0), (19, 1, 1), (9, 1, 2)]
def FK_2 : List (Nat × Nat × Nat) := [(36, 2, 0), (40, 2, 1), (44, 2, 2), (47, 2, 3), (50, 2, 4), (53, 2, 5), (56, 2, 6), (9, 2, 7), (15, 2, 8), (18, 2, 9), (21, 2, 10), (24, 2, 11), (27, 2, 12), (30, 2, 13), (33, 2, 14)]
def FK_3 : List (Nat × Nat × Nat) := [(56, 2, 0), (59, 2, 1), (116, 2, 2), (227, 2, 3), (135, 2, 4), (168, 2, 5), (165, 2, 6), (188, 2, 7), (189, 2, 8), (190, 2, 9), (129, 2, 10), (92, 2, 11), (156, 2, 12), (100, 2, 13), (103, 2, 14), (212, 1, 0), (215, 1, 1), (181, 0, 1), (12, 3, 0), (16, 3, 1), (19, 3, 2), (22, 3, 3), (29, 3, 4), (36, 3, 5), (40, 3, 6), (44, 3, 7)]
def FK_4 : List (Nat × Nat × Nat) := []
def FK_5 : List (Nat × Nat × Nat) := []
def FK_6 : List (Nat × Nat × Nat) := []
def FK_7 : List (Nat × Nat × Nat) := []
def FK (own : Nat) : List (Nat × Nat × Nat) := match own with
  | 0 => FK_0
  | 1 => FK_1
  | 2 => FK_2
  | 3 => FK_3
  | 4 => FK_4
  | 5 => FK_5
  | 6 => FK_6
  | _ => FK_7
def fld (own ix : Nat) : Option (Nat × Nat) := ((FK own).find? (fun e => e.1 == ix)).map (·.2)
def CK_0 : List (Nat × Value) := []
def CK_1 : List (Nat × Value) := []
def CK_2 : List (Nat × Value) := []
def CK_3 : List (Nat × Value) := [(230, .double 4616189618054758400), (232, .double 13830554455654793216), (248, .float 1258291200)]
def CK_4 : List (Nat × Value) := [(265, .int 1431655765), (266, .int 858993459), (267, .int 252645135)]
def CK_5 : List (Nat × Value) := []
def CK_6 : List (Nat × Value) := []
def CK_7 : List (Nat × Value) := [(7, .int 15485959), (8, .int 2147483647), (40, .double 4616189618054758400), (45, .double 4598175219545276416), (50, .double 4612811918334230528), (105, .double 13830554455654793216)]
def CK (own : Nat) : List (Nat × Value) := match own with
  | 0 => CK_0
  | 1 => CK_1
  | 2 => CK_2
  | 3 => CK_3
  | 4 => CK_4
  | 5 => CK_5
  | 6 => CK_6
  | _ => CK_7
def cst (own ix : Nat) : Option Value := ((CK own).find? (fun e => e.1 == ix)).map (·.2)
def NK_0 : List (Nat × Nat) := []
def NK_1 : List (Nat × Nat) := []
def NK_2 : List (Nat × Nat) := []
def NK_3 : List (Nat × Nat) := [(9, 2), (26, 1), (33, 0)]
def NK_4 : List (Nat × Nat) := []
def NK_5 : List (Nat × Nat) := []
def NK_6 : List (Nat × Nat) := []
def NK_7 : List (Nat × Nat) := [(10, 3)]
def NK (own : Nat) : List (Nat × Nat) := match own with
  | 0 => NK_0
  | 1 => NK_1
  | 2 => NK_2
  | 3 => NK_3
  | 4 => NK_4
  | 5 => NK_5
  | 6 => NK_6
  | _ => NK_7
def nwc (own ix : Nat) : Option Nat := ((NK own).find? (fun e => e.1 == ix)).map (·.2)
/-! which words the tables hold, by their places -/
theorem mem_places {ws : List Cond} (ps : List Nat) (h : ps.map (fun i => lw_tbl[i]?) = ws.map some) : ∀ w ∈ ws, w ∈ lw_tbl := by
  intro w hw
  have h1 : some w ∈ ps.map (fun i => lw_tbl[i]?) := by rw [h]; exact List.mem_map.mpr ⟨w, hw, rfl⟩
  obtain ⟨i, -, hi⟩ := List.mem_map.mp h1
  exact List.mem_of_getElem? hi
def wCode (e : Nat × MethodName × ByteArray × Nat × Option FieldType × Nat) : Cond := .code e.2.1 e.2.2.1 e.2.2.2.1 e.2.2.2.2.1
set_option maxRecDepth 100000 in
theorem pC_0 : ∀ w ∈ MT_0.map wCode, w ∈ lw_tbl := mem_places [126, 108, 302, 317, 327, 409, 350, 334, 306, 341, 354, 311, 345] (by decide +kernel)
set_option maxRecDepth 100000 in
theorem pC_1 : ∀ w ∈ MT_1.map wCode, w ∈ lw_tbl := mem_places [33, 202, 209, 471, 233, 184, 265, 277, 269, 261, 273, 292, 288] (by decide +kernel)
set_option maxRecDepth 100000 in
theorem pC_2 : ∀ w ∈ MT_2.map wCode, w ∈ lw_tbl := mem_places [296, 489, 281, 447, 253, 257, 229, 393, 360, 220, 424, 428, 25] (by decide +kernel)
set_option maxRecDepth 100000 in
theorem pC_3 : ∀ w ∈ MT_3.map wCode, w ∈ lw_tbl := mem_places [180, 467, 213, 225, 237, 441, 481, 457, 452, 485, 241, 419, 432] (by decide +kernel)
set_option maxRecDepth 100000 in
theorem pC_4 : ∀ w ∈ MT_4.map wCode, w ∈ lw_tbl := mem_places [245, 405, 365, 371, 380, 187, 216, 383, 284, 337, 375, 191, 195] (by decide +kernel)
set_option maxRecDepth 100000 in
theorem pC_5 : ∀ w ∈ (MT_5.take 12).map wCode, w ∈ lw_tbl := mem_places [198, 249, 388, 320, 330, 396, 415, 401, 437, 463, 474, 477] (by rfl)
set_option maxRecDepth 100000 in
theorem pI : ∀ w ∈ [0, 1, 2, 3, 4, 5, 6, 7].map (fun c => Cond.initialized (CN c)), w ∈ lw_tbl := mem_places [17, 16, 15, 14, 19, 20, 18, 13] (by decide +kernel)
/-- the words of a call: by its kind (0 of an object, 1 static, 2 a constructor, 3 static of a nest mate, 4 a nest mate's constructor, 5 Object's, 6 arraycopy, 7 floatToRawIntBits, 8 Math.max) -/
def wLink (own : Nat) (e : Nat × Nat × Nat) : List Cond := match e.2.1 with
  | 0 => [.methodLink (CN own) e.1 (mnm e.2.2), .instanceMethod (mnm e.2.2), .selects (mnm e.2.2).cls (mnm e.2.2) (mnm e.2.2)]
  | 1 => [.methodLink (CN own) e.1 (mnm e.2.2), .static (mnm e.2.2)]
  | 2 => [.methodLink (CN own) e.1 (mnm e.2.2), .instanceMethod (mnm e.2.2)]
  | 3 => [.methodLinkNest (CN own) e.1 (mnm e.2.2) RX3, .static (mnm e.2.2)]
  | 4 => [.methodLinkNest (CN own) e.1 (mnm e.2.2) RX3, .instanceMethod (mnm e.2.2)]
  | 5 => [.methodLink (CN own) e.1 objectInit, .instanceMethod objectInit]
  | 6 => [.methodLink (CN own) e.1 arraycopyName, .native arraycopyName, .static arraycopyName]
  | 7 => [.methodLink (CN own) e.1 ⟨"java/lang/Float", "floatToRawIntBits", "(F)I"⟩, .native ⟨"java/lang/Float", "floatToRawIntBits", "(F)I"⟩, .static ⟨"java/lang/Float", "floatToRawIntBits", "(F)I"⟩]
  | _ => [.methodLink (CN own) e.1 (mnm e.2.2), .static (mnm e.2.2)]
set_option maxRecDepth 100000 in
theorem pL_0 : ∀ w ∈ LK_0.flatMap (wLink 0), w ∈ lw_tbl := mem_places [127, 27] (by decide +kernel)
set_option maxRecDepth 100000 in
theorem pL_1 : ∀ w ∈ LK_1.flatMap (wLink 1), w ∈ lw_tbl := mem_places [109, 27, 303, 305, 5, 314, 315, 316, 331, 333, 7, 318, 319, 324, 325, 326, 328, 329, 410, 391, 392, 335, 336, 411, 294, 295, 347, 349, 10, 412, 286, 287, 338, 340, 8, 342, 344, 9, 351, 353, 11, 307, 182, 183, 308, 310, 6, 312, 263, 264, 313, 283, 346, 275, 276] (by decide +kernel)
set_option maxRecDepth 100000 in
theorem pL_2 : ∀ w ∈ LK_2.flatMap (wLink 2), w ∈ lw_tbl := mem_places [34, 27, 203, 205, 204, 221, 182, 183, 262, 263, 264, 266, 267, 268, 270, 272, 4, 274, 275, 276, 289, 290, 291, 361, 336, 282, 283, 254, 256, 3, 258, 259, 260, 278, 279, 280, 285, 286, 287, 293, 294, 295] (by decide +kernel)
set_option maxRecDepth 100000 in
theorem pL_3 : ∀ w ∈ LK_3.flatMap (wLink 3), w ∈ lw_tbl := mem_places [26, 27, 31, 32, 106, 107, 124, 125, 181, 182, 183, 185, 186, 188, 190, 0, 206, 207, 208, 468, 469, 470, 214, 215, 217, 218, 219, 226, 227, 228, 230, 231, 232, 297, 263, 264, 442, 259, 260, 443, 279, 280, 444, 445, 446, 384, 319, 298, 267, 268, 389, 283, 458, 290, 291, 459, 286, 287, 433, 275, 276, 434, 294, 295, 420, 336, 486, 487, 488, 196, 197, 381, 382, 421, 422, 423, 425, 426, 427, 246, 248, 2, 299, 300, 301, 355, 315, 316, 356, 325, 326, 357, 358, 359, 406, 407, 408, 372, 363, 364, 373, 374, 385, 387, 12, 390, 391, 392, 192, 194, 1, 199, 200, 201, 250, 251, 252] (by decide +kernel)
set_option maxRecDepth 100000 in
theorem pL_7 : ∀ w ∈ LK_7.flatMap (wLink 7), w ∈ lw_tbl := mem_places [242, 243, 244, 402, 403, 404, 413, 414, 377, 378, 379, 416, 417, 418, 429, 430, 431, 362, 363, 364, 438, 439, 440, 449, 450, 451, 454, 455, 456, 394, 395, 177, 178, 179, 464, 465, 466, 210, 211, 212, 478, 479, 480, 482, 483, 484, 23, 24, 222, 223, 224, 238, 239, 240, 461, 462, 368, 369, 370, 399, 400, 435, 436, 475, 476, 472, 473, 234, 235, 236] (by decide +kernel)
def wFld (own : Nat) (e : Nat × Nat × Nat) : Cond := match vwCl[e.2.1]? with
  | some r => .fieldLink (CN own) e.1 r.1 (r.2.1 e.2.2).2.1 (r.2.1 e.2.2).2.2.1
  | none => .initialized ""
set_option maxRecDepth 100000 in
theorem pF_0 : ∀ w ∈ FK_0.map (wFld 0), w ∈ lw_tbl := mem_places [128, 130, 131, 132, 133] (by decide +kernel)
set_option maxRecDepth 100000 in
theorem pF_1 : ∀ w ∈ FK_1.map (wFld 1), w ∈ lw_tbl := mem_places [50, 53, 56, 63, 67, 70, 110, 112, 114] (by decide +kernel)
set_option maxRecDepth 100000 in
theorem pF_2 : ∀ w ∈ FK_2.map (wFld 2), w ∈ lw_tbl := mem_places [35, 37, 39, 41, 43, 45, 47, 49, 52, 55, 58, 60, 62, 65, 68] (by decide +kernel)
set_option maxRecDepth 100000 in
theorem pF_3 : ∀ w ∈ FK_3.map (wFld 3), w ∈ lw_tbl := mem_places [36, 38, 40, 42, 44, 46, 48, 51, 54, 57, 59, 61, 64, 66, 69, 111, 113, 129, 152, 153, 154, 155, 156, 157, 158, 159] (by decide +kernel)
def wCst (own : Nat) (e : Nat × Value) : Cond := match e.2 with
  | .int v => .constant (CN own) e.1 v
  | .double v => .constantDouble (CN own) e.1 v
  | .float v => .constantFloat (CN own) e.1 v
  | _ => .initialized ""
set_option maxRecDepth 100000 in
theorem pK_3 : ∀ w ∈ CK_3.map (wCst 3), w ∈ lw_tbl := mem_places [366, 367, 376] (by decide +kernel)
set_option maxRecDepth 100000 in
theorem pK_4 : ∀ w ∈ CK_4.map (wCst 4), w ∈ lw_tbl := mem_places [321, 322, 323] (by decide +kernel)
set_option maxRecDepth 100000 in
theorem pK_7 : ∀ w ∈ CK_7.map (wCst 7), w ∈ lw_tbl := mem_places [397, 398, 448, 453, 460, 490] (by decide +kernel)
def wNew (own : Nat) (e : Nat × Nat) : List Cond := match vwCl[e.2]? with
  | some r => [.classLink (CN own) e.1 r.1, .instantiable r.1 r.2.2]
  | none => []
set_option maxRecDepth 100000 in
theorem pN_3 : ∀ w ∈ NK_3.flatMap (wNew 3), w ∈ lw_tbl := mem_places [29, 30, 104, 105, 122, 123] (by decide +kernel)
set_option maxRecDepth 100000 in
theorem pN_7 : ∀ w ∈ NK_7.flatMap (wNew 7), w ∈ lw_tbl := mem_places [21, 22] (by decide +kernel)
set_option maxRecDepth 100000 in
theorem inF_0 : ∀ w ∈ u_ws RX0 TX0 8, w ∈ lw_tbl := mem_places [134, 136, 138, 140, 142, 144, 146, 148] (by decide +kernel)
set_option maxRecDepth 100000 in
theorem inF_1 : ∀ w ∈ u_ws RX1 TX1 3, w ∈ lw_tbl := mem_places [115, 117, 119] (by decide +kernel)
set_option maxRecDepth 100000 in
theorem inF_2 : ∀ w ∈ u_ws RX2 TX2 15, w ∈ lw_tbl := mem_places [71, 73, 75, 77, 79, 81, 83, 85, 87, 89, 91, 93, 95, 97, 99] (by decide +kernel)
set_option maxRecDepth 100000 in
theorem inF_3 : ∀ w ∈ u_ws RX3 TX3 8, w ∈ lw_tbl := mem_places [160, 162, 164, 166, 168, 170, 172, 174] (by decide +kernel)
set_option maxRecDepth 100000 in
theorem pX : ∀ w ∈ [Cond.arrayClass .int, .arrayClass .char, .arrayOver (.object RX2), .code objectInit ⟨#[0xb1]⟩ 1 none], w ∈ lw_tbl := mem_places [102, 151, 103, 28] (by decide +kernel)
end
section
/-! the code of each method, by program counter; it is what decode says -/
def tbOk (tb : List (Option (Instr × Nat))) (cd : ByteArray) : Bool := (List.range tb.length).all (fun pc => match tb[pc]? with
  | some (some q) => decide (decode cd pc = .ok (q.1, q.2))
  | _ => true)
def tbOne (tb : List (Option (Instr × Nat))) (cd : ByteArray) (pc : Nat) : Bool := match tb[pc]? with
  | some (some q) => decide (decode cd pc = .ok (q.1, q.2))
  | _ => true
def tbOkR (tb : List (Option (Instr × Nat))) (cd : ByteArray) (lo n : Nat) : Bool := (List.range n).all (fun k => tbOne tb cd (lo + k))
theorem tbAt {tb : List (Option (Instr × Nat))} {cd : ByteArray} {lo n : Nat} (h : tbOkR tb cd lo n = true) (pc : Nat) (h1 : lo ≤ pc) (h2 : pc < lo + n) : tbOne tb cd pc = true := by
  have h3 := List.all_eq_true.mp h (pc - lo) (List.mem_range.mpr (by omega))
  rw [Nat.add_sub_cancel' h1] at h3
  exact h3
theorem tbOk_of {tb : List (Option (Instr × Nat))} {cd : ByteArray} {n : Nat} (hn : tb.length = n) (h : ∀ pc, pc < n → tbOne tb cd pc = true) : tbOk tb cd = true := by
  subst hn
  exact List.all_eq_true.mpr (fun pc hp => h pc (List.mem_range.mp hp))
def tb_0 : List (Option (Instr × Nat)) := [some (.aload_n 0, 1), some (.invokespecial 3, 3), none, none, some (.aload_n 0, 1), some (.bipush 60, 2), none, some (.newarray .char, 2), none, some (.putfield 9, 3), none, none, some (.aload_n 0, 1), some (.bipush 21, 2), none, some (.newarray .int, 2), none, some (.putfield 15, 3), none, none, some (.aload_n 0, 1), some (.bipush 21, 2), none, some (.newarray .int, 2), none, some (.putfield 19, 3), none, none, some (.aload_n 0, 1), some (.bipush 21, 2), none, some (.newarray .int, 2), none, some (.putfield 22, 3), none, none, some (.aload_n 0, 1), some (.bipush 21, 2), none, some (.newarray .int, 2), none, some (.putfield 25, 3), none, none, some (.return_, 1)]
def tb_1 : List (Option (Instr × Nat)) := [some (.aload_n 0, 1), some (.invokespecial 3, 3), none, none, some (.aload_n 0, 1), some (.bipush 16, 2), none, some (.newarray .int, 2), none, some (.putfield 9, 3), none, none, some (.return_, 1)]
def tb_2 : List (Option (Instr × Nat)) := [some (.aload_n 0, 1), some (.iconst 0, 1), some (.putfield 15, 3), none, none, some (.aload_n 0, 1), some (.iconst 0, 1), some (.putfield 19, 3), none, none, some (.iconst 0, 1), some (.istore_n 3, 1), some (.iload_n 3, 1), some (.bipush 16, 2), none, some (.if_icmp .ge 16, 3), none, none, some (.aload_n 0, 1), some (.getfield 9, 3), none, none, some (.iload_n 3, 1), some (.iconst 0, 1), some (.iastore, 1), some (.iinc 3 1, 3), none, none, some (.goto (-16), 3), none, none, some (.aload_n 0, 1), some (.aload_n 1, 1), some (.iload_n 2, 1), some (.invokevirtual 22, 3), none, none, some (.iconst 0, 1), some (.istore_n 3, 1), some (.iconst 0, 1), some (.istore 4, 2), none, some (.iload 4, 2), none, some (.bipush 76, 2), none, some (.if_icmp .gt 29, 3), none, none, some (.aload_n 0, 1), some (.aload_n 1, 1), some (.invokevirtual 26, 3), none, none, some (.iload_n 3, 1), some (.if_icmp .le 20, 3), none, none, some (.aload_n 0, 1), some (.aload_n 1, 1), some (.invokevirtual 26, 3), none, none, some (.istore_n 3, 1), some (.aload_n 0, 1), some (.aload_n 1, 1), some (.invokevirtual 30, 3), none, none, some (.iinc 4 1, 3), none, none, some (.goto (-30), 3), none, none, some (.return_, 1)]
def tb_3 : List (Option (Instr × Nat)) := [some (.aload_n 0, 1), some (.getfield 15, 3), none, none, some (.invokestatic 34, 3), none, none, some (.aload_n 0, 1), some (.getfield 19, 3), none, none, some (.invokestatic 34, 3), none, none, some (.iadd, 1), some (.aload_n 0, 1), some (.aload_n 1, 1), some (.invokevirtual 40, 3), none, none, some (.iadd, 1), some (.ireturn, 1)]
def tb_4 : List (Option (Instr × Nat)) := [some (.iconst 0, 1), some (.istore_n 2, 1), some (.iconst 0, 1), some (.istore_n 3, 1), some (.iload_n 3, 1), some (.bipush 16, 2), none, some (.if_icmp .ge 29, 3), none, none, some (.iload_n 2, 1), some (.iconst 0, 1), some (.aload_n 0, 1), some (.getfield 9, 3), none, none, some (.iload_n 3, 1), some (.iaload, 1), some (.aload_n 1, 1), some (.getfield 43, 3), none, none, some (.iload_n 3, 1), some (.iaload, 1), some (.isub, 1), some (.invokestatic 48, 3), none, none, some (.iadd, 1), some (.istore_n 2, 1), some (.iinc 3 1, 3), none, none, some (.goto (-29), 3), none, none, some (.iload_n 2, 1), some (.ireturn, 1)]
def tb_5 : List (Option (Instr × Nat)) := [some (.aload_n 0, 1), some (.getfield 15, 3), none, none, some (.aload_n 1, 1), some (.invokevirtual 54, 3), none, none, some (.iand, 1), some (.istore_n 2, 1), some (.iconst 0, 1), some (.istore_n 3, 1), some (.iload_n 3, 1), some (.bipush 16, 2), none, some (.if_icmp .ge 22, 3), none, none, some (.iload_n 2, 1), some (.iload_n 3, 1), some (.invokestatic 58, 3), none, none, some (.ifCond .eq 8, 3), none, none, some (.bipush 100, 2), none, some (.iload_n 3, 1), some (.iadd, 1), some (.ireturn, 1), some (.iinc 3 1, 3), none, none, some (.goto (-22), 3), none, none, some (.iconst 0, 1), some (.istore_n 3, 1), some (.iload_n 3, 1), some (.bipush 12, 2), none, some (.if_icmp .ge 34, 3), none, none, some (.aload_n 0, 1), some (.getfield 19, 3), none, none, some (.iload_n 3, 1), some (.invokestatic 58, 3), none, none, some (.ifCond .eq 17, 3), none, none, some (.aload_n 1, 1), some (.iload_n 3, 1), some (.invokevirtual 62, 3), none, none, some (.ifCond .eq 9, 3), none, none, some (.sipush 200, 3), none, none, some (.iload_n 3, 1), some (.iadd, 1), some (.ireturn, 1), some (.iinc 3 1, 3), none, none, some (.goto (-34), 3), none, none, some (.iconst 0, 1), some (.istore_n 3, 1), some (.iload_n 3, 1), some (.bipush 16, 2), none, some (.if_icmp .ge 32, 3), none, none, some (.aload_n 0, 1), some (.aload_n 1, 1), some (.iload_n 3, 1), some (.invokevirtual 66, 3), none, none, some (.ifCond .eq 17, 3), none, none, some (.aload_n 1, 1), some (.iload_n 3, 1), some (.invokevirtual 70, 3), none, none, some (.ifCond .eq 9, 3), none, none, some (.sipush 300, 3), none, none, some (.iload_n 3, 1), some (.iadd, 1), some (.ireturn, 1), some (.iinc 3 1, 3), none, none, some (.goto (-32), 3), none, none, some (.bipush (-5), 2), none, some (.ireturn, 1)]
def tb_6 : List (Option (Instr × Nat)) := [some (.aload_n 0, 1), some (.getfield 9, 3), none, none, some (.iload_n 2, 1), some (.iaload, 1), some (.aload_n 1, 1), some (.getfield 43, 3), none, none, some (.iload_n 2, 1), some (.iaload, 1), some (.if_icmp .le 7, 3), none, none, some (.iconst 1, 1), some (.goto 4, 3), none, none, some (.iconst 0, 1), some (.ireturn, 1)]
def tb_7 : List (Option (Instr × Nat)) := [some (.iconst 0, 1), some (.istore_n 2, 1), some (.iload_n 2, 1), some (.bipush 16, 2), none, some (.if_icmp .ge 48, 3), none, none, some (.aload_n 0, 1), some (.getfield 15, 3), none, none, some (.iload_n 2, 1), some (.invokestatic 58, 3), none, none, some (.ifCond .eq 9, 3), none, none, some (.aload_n 0, 1), some (.aload_n 1, 1), some (.iload_n 2, 1), some (.invokevirtual 73, 3), none, none, some (.aload_n 0, 1), some (.aload_n 1, 1), some (.iload_n 2, 1), some (.invokevirtual 66, 3), none, none, some (.ifCond .eq 16, 3), none, none, some (.aload_n 0, 1), some (.aload_n 1, 1), some (.iload_n 2, 1), some (.invokevirtual 22, 3), none, none, some (.aload_n 0, 1), some (.aload_n 1, 1), some (.bipush 10, 2), none, some (.invokevirtual 76, 3), none, none, some (.iinc 2 1, 3), none, none, some (.goto (-48), 3), none, none, some (.iconst 0, 1), some (.istore_n 2, 1), some (.iload_n 2, 1), some (.bipush 12, 2), none, some (.if_icmp .ge 26, 3), none, none, some (.aload_n 0, 1), some (.getfield 19, 3), none, none, some (.iload_n 2, 1), some (.invokestatic 58, 3), none, none, some (.ifCond .eq 9, 3), none, none, some (.aload_n 0, 1), some (.aload_n 1, 1), some (.iload_n 2, 1), some (.invokevirtual 79, 3), none, none, some (.iinc 2 1, 3), none, none, some (.goto (-26), 3), none, none, some (.return_, 1)]
def tb_8 : List (Option (Instr × Nat)) := [some (.iload_n 2, 1), some (.istore_n 3, 1), some (.iconst 0, 1), some (.istore 4, 2), none, some (.iload 4, 2), none, some (.bipush 16, 2), none, some (.if_icmp .gt 30, 3), none, none, some (.aload_n 1, 1), some (.iload_n 3, 1), some (.invokevirtual 82, 3), none, none, some (.ifCond .eq 22, 3), none, none, some (.aload_n 0, 1), some (.aload_n 1, 1), some (.iload_n 3, 1), some (.invokevirtual 85, 3), none, none, some (.aload_n 1, 1), some (.getfield 88, 3), none, none, some (.iload_n 3, 1), some (.iaload, 1), some (.istore_n 3, 1), some (.iinc 4 1, 3), none, none, some (.goto (-31), 3), none, none, some (.return_, 1)]
def tb_9 : List (Option (Instr × Nat)) := [some (.aload_n 0, 1), some (.aload_n 1, 1), some (.iload_n 2, 1), some (.invokevirtual 22, 3), none, none, some (.aload_n 1, 1), some (.getfield 91, 3), none, none, some (.iload_n 2, 1), some (.iaload, 1), some (.iconst 1, 1), some (.if_icmp .ne 14, 3), none, none, some (.aload_n 0, 1), some (.aload_n 1, 1), some (.aload_n 1, 1), some (.getfield 94, 3), none, none, some (.iload_n 2, 1), some (.iaload, 1), some (.invokevirtual 76, 3), none, none, some (.aload_n 1, 1), some (.getfield 91, 3), none, none, some (.iload_n 2, 1), some (.iaload, 1), some (.iconst 2, 1), some (.if_icmp .ne 14, 3), none, none, some (.aload_n 0, 1), some (.aload_n 1, 1), some (.aload_n 1, 1), some (.getfield 94, 3), none, none, some (.iload_n 2, 1), some (.iaload, 1), some (.invokevirtual 85, 3), none, none, some (.return_, 1)]
def tb_10 : List (Option (Instr × Nat)) := [some (.aload_n 1, 1), some (.getfield 97, 3), none, none, some (.iload_n 2, 1), some (.iaload, 1), some (.istore_n 3, 1), some (.aload_n 1, 1), some (.iload_n 3, 1), some (.invokevirtual 82, 3), none, none, some (.ifCond .eq 30, 3), none, none, some (.aload_n 0, 1), some (.aload_n 1, 1), some (.iload_n 3, 1), some (.invokevirtual 22, 3), none, none, some (.aload_n 0, 1), some (.getfield 9, 3), none, none, some (.iload_n 3, 1), some (.aload_n 0, 1), some (.getfield 9, 3), none, none, some (.iload_n 3, 1), some (.iaload, 1), some (.aload_n 1, 1), some (.getfield 100, 3), none, none, some (.iload_n 2, 1), some (.iaload, 1), some (.invokestatic 48, 3), none, none, some (.iastore, 1), some (.return_, 1)]
def tb_11 : List (Option (Instr × Nat)) := [some (.aload_n 1, 1), some (.iload_n 2, 1), some (.invokevirtual 103, 3), none, none, some (.ifCond .ne 16, 3), none, none, some (.aload_n 0, 1), some (.dup, 1), some (.getfield 15, 3), none, none, some (.iload_n 2, 1), some (.invokestatic 106, 3), none, none, some (.ior, 1), some (.putfield 15, 3), none, none, some (.return_, 1)]
def tb_12 : List (Option (Instr × Nat)) := [some (.aload_n 1, 1), some (.iload_n 2, 1), some (.invokevirtual 109, 3), none, none, some (.ifCond .ne 16, 3), none, none, some (.aload_n 0, 1), some (.dup, 1), some (.getfield 19, 3), none, none, some (.iload_n 2, 1), some (.invokestatic 106, 3), none, none, some (.ior, 1), some (.putfield 19, 3), none, none, some (.return_, 1)]
def tb_13 : List (Option (Instr × Nat)) := [some (.aload_n 0, 1), some (.invokespecial 3, 3), none, none, some (.aload_n 0, 1), some (.bipush 16, 2), none, some (.newarray .int, 2), none, some (.putfield 9, 3), none, none, some (.aload_n 0, 1), some (.bipush 16, 2), none, some (.newarray .int, 2), none, some (.putfield 15, 3), none, none, some (.aload_n 0, 1), some (.bipush 16, 2), none, some (.newarray .int, 2), none, some (.putfield 18, 3), none, none, some (.aload_n 0, 1), some (.bipush 16, 2), none, some (.newarray .int, 2), none, some (.putfield 21, 3), none, none, some (.aload_n 0, 1), some (.bipush 16, 2), none, some (.newarray .int, 2), none, some (.putfield 24, 3), none, none, some (.aload_n 0, 1), some (.bipush 16, 2), none, some (.newarray .int, 2), none, some (.putfield 27, 3), none, none, some (.aload_n 0, 1), some (.bipush 12, 2), none, some (.newarray .int, 2), none, some (.putfield 30, 3), none, none, some (.aload_n 0, 1), some (.bipush 12, 2), none, some (.newarray .int, 2), none, some (.putfield 33, 3), none, none, some (.iconst 0, 1), some (.istore_n 1, 1), some (.iload_n 1, 1), some (.bipush 12, 2), none, some (.if_icmp .ge 17, 3), none, none, some (.aload_n 0, 1), some (.getfield 30, 3), none, none, some (.iload_n 1, 1), some (.bipush (-5), 2), none, some (.iastore, 1), some (.iinc 1 1, 3), none, none, some (.goto (-17), 3), none, none, some (.return_, 1)]
def tb_14 : List (Option (Instr × Nat)) := [some (.aload_n 0, 1), some (.aload_n 1, 1), some (.getfield 36, 3), none, none, some (.putfield 36, 3), none, none, some (.aload_n 0, 1), some (.aload_n 1, 1), some (.getfield 40, 3), none, none, some (.putfield 40, 3), none, none, some (.aload_n 0, 1), some (.aload_n 1, 1), some (.getfield 44, 3), none, none, some (.putfield 44, 3), none, none, some (.aload_n 0, 1), some (.aload_n 1, 1), some (.getfield 47, 3), none, none, some (.putfield 47, 3), none, none, some (.aload_n 0, 1), some (.aload_n 1, 1), some (.getfield 50, 3), none, none, some (.putfield 50, 3), none, none, some (.aload_n 0, 1), some (.aload_n 1, 1), some (.getfield 53, 3), none, none, some (.putfield 53, 3), none, none, some (.aload_n 0, 1), some (.aload_n 1, 1), some (.getfield 56, 3), none, none, some (.putfield 56, 3), none, none, some (.aload_n 1, 1), some (.getfield 9, 3), none, none, some (.iconst 0, 1), some (.aload_n 0, 1), some (.getfield 9, 3), none, none, some (.iconst 0, 1), some (.bipush 16, 2), none, some (.invokestatic 59, 3), none, none, some (.aload_n 1, 1), some (.getfield 15, 3), none, none, some (.iconst 0, 1), some (.aload_n 0, 1), some (.getfield 15, 3), none, none, some (.iconst 0, 1), some (.bipush 16, 2), none, some (.invokestatic 59, 3), none, none, some (.aload_n 1, 1), some (.getfield 18, 3), none, none, some (.iconst 0, 1), some (.aload_n 0, 1), some (.getfield 18, 3), none, none, some (.iconst 0, 1), some (.bipush 16, 2), none, some (.invokestatic 59, 3), none, none, some (.aload_n 1, 1), some (.getfield 21, 3), none, none, some (.iconst 0, 1), some (.aload_n 0, 1), some (.getfield 21, 3), none, none, some (.iconst 0, 1), some (.bipush 16, 2), none, some (.invokestatic 59, 3), none, none, some (.aload_n 1, 1), some (.getfield 24, 3), none, none, some (.iconst 0, 1), some (.aload_n 0, 1), some (.getfield 24, 3), none, none, some (.iconst 0, 1), some (.bipush 16, 2), none, some (.invokestatic 59, 3), none, none, some (.aload_n 1, 1), some (.getfield 27, 3), none, none, some (.iconst 0, 1), some (.aload_n 0, 1), some (.getfield 27, 3), none, none, some (.iconst 0, 1), some (.bipush 16, 2), none, some (.invokestatic 59, 3), none, none, some (.aload_n 1, 1), some (.getfield 30, 3), none, none, some (.iconst 0, 1), some (.aload_n 0, 1), some (.getfield 30, 3), none, none, some (.iconst 0, 1), some (.bipush 12, 2), none, some (.invokestatic 59, 3), none, none, some (.aload_n 1, 1), some (.getfield 33, 3), none, none, some (.iconst 0, 1), some (.aload_n 0, 1), some (.getfield 33, 3), none, none, some (.iconst 0, 1), some (.bipush 12, 2), none, some (.invokestatic 59, 3), none, none, some (.return_, 1)]
def tb_15 : List (Option (Instr × Nat)) := [some (.aload_n 0, 1), some (.getfield 36, 3), none, none, some (.bipush 16, 2), none, some (.if_icmp .ge 90, 3), none, none, some (.aload_n 0, 1), some (.getfield 9, 3), none, none, some (.aload_n 0, 1), some (.getfield 36, 3), none, none, some (.iload_n 1, 1), some (.iastore, 1), some (.aload_n 0, 1), some (.getfield 15, 3), none, none, some (.aload_n 0, 1), some (.getfield 36, 3), none, none, some (.iload_n 2, 1), some (.iastore, 1), some (.aload_n 0, 1), some (.getfield 18, 3), none, none, some (.aload_n 0, 1), some (.getfield 36, 3), none, none, some (.iload_n 2, 1), some (.iconst 1, 1), some (.if_icmp .eq 8, 3), none, none, some (.iload_n 2, 1), some (.iconst 2, 1), some (.if_icmp .ne 7, 3), none, none, some (.iload_n 3, 1), some (.goto 5, 3), none, none, some (.bipush (-5), 2), none, some (.iastore, 1), some (.aload_n 0, 1), some (.getfield 21, 3), none, none, some (.aload_n 0, 1), some (.getfield 36, 3), none, none, some (.iload 4, 2), none, some (.iastore, 1), some (.aload_n 0, 1), some (.getfield 24, 3), none, none, some (.aload_n 0, 1), some (.getfield 36, 3), none, none, some (.iload 5, 2), none, some (.iastore, 1), some (.aload_n 0, 1), some (.getfield 27, 3), none, none, some (.aload_n 0, 1), some (.getfield 36, 3), none, none, some (.iconst 0, 1), some (.iastore, 1), some (.aload_n 0, 1), some (.dup, 1), some (.getfield 36, 3), none, none, some (.iconst 1, 1), some (.iadd, 1), some (.putfield 36, 3), none, none, some (.return_, 1)]
def tb_16 : List (Option (Instr × Nat)) := [some (.aload_n 0, 1), some (.getfield 24, 3), none, none, some (.iload_n 1, 1), some (.iload_n 2, 1), some (.iastore, 1), some (.iconst 0, 1), some (.istore_n 3, 1), some (.iload_n 3, 1), some (.bipush 12, 2), none, some (.if_icmp .ge 36, 3), none, none, some (.aload_n 0, 1), some (.getfield 30, 3), none, none, some (.iload_n 3, 1), some (.iaload, 1), some (.iload_n 1, 1), some (.if_icmp .ne 20, 3), none, none, some (.aload_n 0, 1), some (.getfield 33, 3), none, none, some (.iload_n 3, 1), some (.iaload, 1), some (.iload_n 2, 1), some (.if_icmp .le 10, 3), none, none, some (.aload_n 0, 1), some (.getfield 33, 3), none, none, some (.iload_n 3, 1), some (.iload_n 2, 1), some (.iastore, 1), some (.iinc 3 1, 3), none, none, some (.goto (-36), 3), none, none, some (.return_, 1)]
def tb_17 : List (Option (Instr × Nat)) := [some (.aload_n 0, 1), some (.iconst 0, 1), some (.putfield 40, 3), none, none, some (.aload_n 0, 1), some (.iconst 0, 1), some (.putfield 44, 3), none, none, some (.aload_n 0, 1), some (.iconst 0, 1), some (.putfield 47, 3), none, none, some (.aload_n 0, 1), some (.iconst 0, 1), some (.putfield 50, 3), none, none, some (.aload_n 0, 1), some (.iconst 0, 1), some (.putfield 53, 3), none, none, some (.aload_n 0, 1), some (.iconst 0, 1), some (.putfield 56, 3), none, none, some (.iconst 0, 1), some (.istore_n 1, 1), some (.iload_n 1, 1), some (.bipush 16, 2), none, some (.if_icmp .ge 16, 3), none, none, some (.aload_n 0, 1), some (.getfield 27, 3), none, none, some (.iload_n 1, 1), some (.iconst 0, 1), some (.iastore, 1), some (.iinc 1 1, 3), none, none, some (.goto (-16), 3), none, none, some (.return_, 1)]
def tb_18 : List (Option (Instr × Nat)) := [some (.iload_n 1, 1), some (.ifCond .lt 15, 3), none, none, some (.iload_n 1, 1), some (.aload_n 0, 1), some (.getfield 36, 3), none, none, some (.if_icmp .ge 7, 3), none, none, some (.iconst 1, 1), some (.goto 4, 3), none, none, some (.iconst 0, 1), some (.ireturn, 1)]
def tb_19 : List (Option (Instr × Nat)) := [some (.aload_n 0, 1), some (.getfield 50, 3), none, none, some (.iconst 1, 1), some (.iload_n 1, 1), some (.ishl, 1), some (.iand, 1), some (.ifCond .eq 7, 3), none, none, some (.iconst 1, 1), some (.goto 4, 3), none, none, some (.iconst 0, 1), some (.ireturn, 1)]
def tb_20 : List (Option (Instr × Nat)) := [some (.aload_n 0, 1), some (.getfield 56, 3), none, none, some (.iconst 1, 1), some (.iload_n 1, 1), some (.ishl, 1), some (.iand, 1), some (.ifCond .eq 7, 3), none, none, some (.iconst 1, 1), some (.goto 4, 3), none, none, some (.iconst 0, 1), some (.ireturn, 1)]
def tb_21 : List (Option (Instr × Nat)) := [some (.aload_n 0, 1), some (.getfield 9, 3), none, none, some (.iload_n 1, 1), some (.iaload, 1), some (.istore_n 2, 1), some (.iconst 0, 1), some (.istore_n 3, 1), some (.iload_n 3, 1), some (.bipush 16, 2), none, some (.if_icmp .ge 34, 3), none, none, some (.aload_n 0, 1), some (.iload_n 2, 1), some (.invokevirtual 65, 3), none, none, some (.ifCond .eq 26, 3), none, none, some (.aload_n 0, 1), some (.iload_n 2, 1), some (.invokevirtual 69, 3), none, none, some (.ifCond .ne 5, 3), none, none, some (.iconst 0, 1), some (.ireturn, 1), some (.aload_n 0, 1), some (.getfield 9, 3), none, none, some (.iload_n 2, 1), some (.iaload, 1), some (.istore_n 2, 1), some (.iinc 3 1, 3), none, none, some (.goto (-34), 3), none, none, some (.iconst 1, 1), some (.ireturn, 1)]
def tb_22 : List (Option (Instr × Nat)) := [some (.aload_n 0, 1), some (.iload_n 1, 1), some (.invokevirtual 69, 3), none, none, some (.ifCond .ne 23, 3), none, none, some (.aload_n 0, 1), some (.iload_n 1, 1), some (.invokevirtual 72, 3), none, none, some (.ifCond .eq 15, 3), none, none, some (.aload_n 0, 1), some (.iload_n 1, 1), some (.invokevirtual 75, 3), none, none, some (.ifCond .eq 7, 3), none, none, some (.iconst 1, 1), some (.goto 4, 3), none, none, some (.iconst 0, 1), some (.ireturn, 1)]
def tb_23 : List (Option (Instr × Nat)) := [some (.aload_n 0, 1), some (.getfield 15, 3), none, none, some (.iload_n 1, 1), some (.iaload, 1), some (.lookupswitch 48 #[(1, 26), (2, 37)], 26), none, none, none, none, none, none, none, none, none, none, none, none, none, none, none, none, none, none, none, none, none, none, none, none, none, some (.aload_n 0, 1), some (.aload_n 0, 1), some (.getfield 18, 3), none, none, some (.iload_n 1, 1), some (.iaload, 1), some (.invokevirtual 78, 3), none, none, some (.ireturn, 1), some (.aload_n 0, 1), some (.aload_n 0, 1), some (.getfield 18, 3), none, none, some (.iload_n 1, 1), some (.iaload, 1), some (.invokevirtual 69, 3), none, none, some (.ireturn, 1), some (.iconst 1, 1), some (.ireturn, 1)]
def tb_24 : List (Option (Instr × Nat)) := [some (.aload_n 0, 1), some (.getfield 27, 3), none, none, some (.iload_n 1, 1), some (.iaload, 1), some (.aload_n 0, 1), some (.getfield 24, 3), none, none, some (.iload_n 1, 1), some (.iaload, 1), some (.if_icmp .ge 7, 3), none, none, some (.iconst 1, 1), some (.goto 4, 3), none, none, some (.iconst 0, 1), some (.ireturn, 1)]
def tb_25 : List (Option (Instr × Nat)) := [some (.aload_n 0, 1), some (.iload_n 1, 1), some (.invokevirtual 81, 3), none, none, some (.ifCond .eq 32, 3), none, none, some (.aload_n 0, 1), some (.iload_n 1, 1), some (.invokevirtual 69, 3), none, none, some (.ifCond .eq 24, 3), none, none, some (.aload_n 0, 1), some (.iload_n 1, 1), some (.invokevirtual 72, 3), none, none, some (.ifCond .eq 16, 3), none, none, some (.aload_n 0, 1), some (.bipush 10, 2), none, some (.invokevirtual 78, 3), none, none, some (.ifCond .eq 7, 3), none, none, some (.iconst 1, 1), some (.goto 4, 3), none, none, some (.iconst 0, 1), some (.ireturn, 1)]
def tb_26 : List (Option (Instr × Nat)) := [some (.aload_n 0, 1), some (.iload_n 1, 1), some (.invokevirtual 78, 3), none, none, some (.ifCond .eq 5, 3), none, none, some (.iconst 0, 1), some (.ireturn, 1), some (.aload_n 0, 1), some (.getfield 30, 3), none, none, some (.iload_n 1, 1), some (.iaload, 1), some (.istore_n 2, 1), some (.aload_n 0, 1), some (.iload_n 2, 1), some (.invokevirtual 65, 3), none, none, some (.ifCond .ne 5, 3), none, none, some (.iconst 1, 1), some (.ireturn, 1), some (.aload_n 0, 1), some (.iload_n 2, 1), some (.invokevirtual 69, 3), none, none, some (.ifCond .eq 30, 3), none, none, some (.aload_n 0, 1), some (.iload_n 2, 1), some (.invokevirtual 72, 3), none, none, some (.ifCond .eq 22, 3), none, none, some (.aload_n 0, 1), some (.getfield 27, 3), none, none, some (.iload_n 2, 1), some (.iaload, 1), some (.aload_n 0, 1), some (.getfield 33, 3), none, none, some (.iload_n 1, 1), some (.iaload, 1), some (.if_icmp .lt 7, 3), none, none, some (.iconst 1, 1), some (.goto 4, 3), none, none, some (.iconst 0, 1), some (.ireturn, 1)]
def tb_27 : List (Option (Instr × Nat)) := [some (.aload_n 0, 1), some (.getfield 53, 3), none, none, some (.iload_n 1, 1), some (.invokestatic 84, 3), none, none, some (.ifCond .eq 32, 3), none, none, some (.aload_n 0, 1), some (.iload_n 1, 1), some (.invokevirtual 69, 3), none, none, some (.ifCond .ne 24, 3), none, none, some (.aload_n 0, 1), some (.iload_n 1, 1), some (.invokevirtual 72, 3), none, none, some (.ifCond .eq 16, 3), none, none, some (.aload_n 0, 1), some (.bipush 11, 2), none, some (.invokevirtual 78, 3), none, none, some (.ifCond .eq 7, 3), none, none, some (.iconst 1, 1), some (.goto 4, 3), none, none, some (.iconst 0, 1), some (.ireturn, 1)]
def tb_28 : List (Option (Instr × Nat)) := [some (.aload_n 0, 1), some (.dup, 1), some (.getfield 50, 3), none, none, some (.iload_n 1, 1), some (.invokestatic 88, 3), none, none, some (.ior, 1), some (.putfield 50, 3), none, none, some (.aload_n 0, 1), some (.getfield 15, 3), none, none, some (.iload_n 1, 1), some (.iaload, 1), some (.iconst 3, 1), some (.if_icmp .ne 16, 3), none, none, some (.aload_n 0, 1), some (.dup, 1), some (.getfield 53, 3), none, none, some (.iload_n 1, 1), some (.invokestatic 88, 3), none, none, some (.ior, 1), some (.putfield 53, 3), none, none, some (.return_, 1)]
def tb_29 : List (Option (Instr × Nat)) := [some (.aload_n 0, 1), some (.dup, 1), some (.getfield 44, 3), none, none, some (.iconst 1, 1), some (.iadd, 1), some (.putfield 44, 3), none, none, some (.aload_n 0, 1), some (.dup, 1), some (.getfield 47, 3), none, none, some (.iload_n 1, 1), some (.iadd, 1), some (.putfield 47, 3), none, none, some (.return_, 1)]
def tb_30 : List (Option (Instr × Nat)) := [some (.iconst 1, 1), some (.istore_n 1, 1), some (.iconst 0, 1), some (.istore_n 2, 1), some (.iload_n 2, 1), some (.bipush 76, 2), none, some (.if_icmp .gt 18, 3), none, none, some (.iload_n 1, 1), some (.ifCond .eq 14, 3), none, none, some (.aload_n 0, 1), some (.invokevirtual 92, 3), none, none, some (.istore_n 1, 1), some (.iinc 2 1, 3), none, none, some (.goto (-18), 3), none, none, some (.return_, 1)]
def tb_31 : List (Option (Instr × Nat)) := [some (.iconst 0, 1), some (.istore_n 1, 1), some (.iconst 0, 1), some (.istore_n 2, 1), some (.iload_n 2, 1), some (.aload_n 0, 1), some (.getfield 36, 3), none, none, some (.if_icmp .ge 44, 3), none, none, some (.aload_n 0, 1), some (.iload_n 2, 1), some (.invokevirtual 96, 3), none, none, some (.ifCond .eq 10, 3), none, none, some (.aload_n 0, 1), some (.iload_n 2, 1), some (.invokevirtual 99, 3), none, none, some (.iconst 1, 1), some (.istore_n 1, 1), some (.aload_n 0, 1), some (.iload_n 2, 1), some (.invokevirtual 103, 3), none, none, some (.ifCond .eq 15, 3), none, none, some (.aload_n 0, 1), some (.getfield 27, 3), none, none, some (.iload_n 2, 1), some (.dup2, 1), some (.iaload, 1), some (.iconst 1, 1), some (.iadd, 1), some (.iastore, 1), some (.iconst 1, 1), some (.istore_n 1, 1), some (.iinc 2 1, 3), none, none, some (.goto (-46), 3), none, none, some (.iconst 0, 1), some (.istore_n 2, 1), some (.iload_n 2, 1), some (.bipush 12, 2), none, some (.if_icmp .ge 32, 3), none, none, some (.aload_n 0, 1), some (.iload_n 2, 1), some (.invokevirtual 106, 3), none, none, some (.ifCond .eq 18, 3), none, none, some (.aload_n 0, 1), some (.dup, 1), some (.getfield 56, 3), none, none, some (.iload_n 2, 1), some (.invokestatic 88, 3), none, none, some (.ior, 1), some (.putfield 56, 3), none, none, some (.iconst 1, 1), some (.istore_n 1, 1), some (.iinc 2 1, 3), none, none, some (.goto (-32), 3), none, none, some (.iload_n 1, 1), some (.ireturn, 1)]
def tb_32 : List (Option (Instr × Nat)) := [some (.iconst 0, 1), some (.istore_n 1, 1), some (.iload_n 1, 1), some (.aload_n 0, 1), some (.getfield 36, 3), none, none, some (.if_icmp .ge 34, 3), none, none, some (.aload_n 0, 1), some (.getfield 15, 3), none, none, some (.iload_n 1, 1), some (.iaload, 1), some (.iconst 2, 1), some (.if_icmp .ne 18, 3), none, none, some (.aload_n 0, 1), some (.aload_n 0, 1), some (.getfield 18, 3), none, none, some (.iload_n 1, 1), some (.iaload, 1), some (.invokevirtual 65, 3), none, none, some (.ifCond .ne 5, 3), none, none, some (.iconst 0, 1), some (.ireturn, 1), some (.iinc 1 1, 3), none, none, some (.goto (-36), 3), none, none, some (.iconst 1, 1), some (.ireturn, 1)]
def tb_33 : List (Option (Instr × Nat)) := [some (.iconst 0, 1), some (.istore_n 1, 1), some (.iconst 0, 1), some (.istore_n 2, 1), some (.iload_n 2, 1), some (.aload_n 0, 1), some (.getfield 36, 3), none, none, some (.if_icmp .ge 24, 3), none, none, some (.aload_n 0, 1), some (.iload_n 2, 1), some (.invokevirtual 96, 3), none, none, some (.ifCond .eq 10, 3), none, none, some (.iload_n 1, 1), some (.iload_n 2, 1), some (.invokestatic 88, 3), none, none, some (.ior, 1), some (.istore_n 1, 1), some (.iinc 2 1, 3), none, none, some (.goto (-26), 3), none, none, some (.iload_n 1, 1), some (.ireturn, 1)]
def tb_34 : List (Option (Instr × Nat)) := [some (.iconst 0, 1), some (.istore_n 2, 1), some (.iconst 0, 1), some (.istore_n 3, 1), some (.iload_n 3, 1), some (.aload_n 0, 1), some (.getfield 36, 3), none, none, some (.if_icmp .ge 41, 3), none, none, some (.iload_n 1, 1), some (.iload_n 3, 1), some (.invokestatic 84, 3), none, none, some (.ifCond .eq 27, 3), none, none, some (.aload_n 0, 1), some (.getfield 15, 3), none, none, some (.iload_n 3, 1), some (.iaload, 1), some (.iconst 3, 1), some (.if_icmp .ne 17, 3), none, none, some (.aload_n 0, 1), some (.getfield 53, 3), none, none, some (.iload_n 3, 1), some (.invokestatic 84, 3), none, none, some (.ifCond .ne 6, 3), none, none, some (.iinc 2 1, 3), none, none, some (.iinc 3 1, 3), none, none, some (.goto (-43), 3), none, none, some (.iload_n 2, 1), some (.ireturn, 1)]
def tb_35 : List (Option (Instr × Nat)) := [some (.iconst 0, 1), some (.istore_n 1, 1), some (.iconst 0, 1), some (.istore_n 2, 1), some (.iload_n 2, 1), some (.bipush 12, 2), none, some (.if_icmp .ge 25, 3), none, none, some (.aload_n 0, 1), some (.aload_n 0, 1), some (.getfield 30, 3), none, none, some (.iload_n 2, 1), some (.iaload, 1), some (.invokevirtual 65, 3), none, none, some (.ifCond .eq 6, 3), none, none, some (.iinc 1 1, 3), none, none, some (.iinc 2 1, 3), none, none, some (.goto (-25), 3), none, none, some (.iload_n 1, 1), some (.ireturn, 1)]
def tb_36 : List (Option (Instr × Nat)) := [some (.iconst 0, 1), some (.istore_n 2, 1), some (.iconst 0, 1), some (.istore_n 3, 1), some (.iload_n 3, 1), some (.bipush 12, 2), none, some (.if_icmp .ge 30, 3), none, none, some (.aload_n 0, 1), some (.getfield 30, 3), none, none, some (.iload_n 3, 1), some (.iaload, 1), some (.iload_n 1, 1), some (.if_icmp .ne 14, 3), none, none, some (.aload_n 0, 1), some (.iload_n 3, 1), some (.invokevirtual 78, 3), none, none, some (.ifCond .ne 6, 3), none, none, some (.iinc 2 1, 3), none, none, some (.iinc 3 1, 3), none, none, some (.goto (-30), 3), none, none, some (.iload_n 2, 1), some (.ireturn, 1)]
def tb_37 : List (Option (Instr × Nat)) := [some (.aload_n 0, 1), some (.getfield 9, 3), none, none, some (.iload_n 1, 1), some (.iaload, 1), some (.istore_n 2, 1), some (.iconst 0, 1), some (.istore_n 3, 1), some (.iload_n 3, 1), some (.bipush 16, 2), none, some (.if_icmp .ge 24, 3), none, none, some (.aload_n 0, 1), some (.iload_n 2, 1), some (.invokevirtual 65, 3), none, none, some (.ifCond .eq 16, 3), none, none, some (.iinc 3 1, 3), none, none, some (.aload_n 0, 1), some (.getfield 9, 3), none, none, some (.iload_n 2, 1), some (.iaload, 1), some (.istore_n 2, 1), some (.goto (-24), 3), none, none, some (.iload_n 3, 1), some (.ireturn, 1)]
def tb_38 : List (Option (Instr × Nat)) := [some (.aload_n 0, 1), some (.invokespecial 3, 3), none, none, some (.aload_n 0, 1), some (.new 9, 3), none, none, some (.dup, 1), some (.invokespecial 11, 3), none, none, some (.putfield 12, 3), none, none, some (.aload_n 0, 1), some (.new 9, 3), none, none, some (.dup, 1), some (.invokespecial 11, 3), none, none, some (.putfield 16, 3), none, none, some (.aload_n 0, 1), some (.new 9, 3), none, none, some (.dup, 1), some (.invokespecial 11, 3), none, none, some (.putfield 19, 3), none, none, some (.aload_n 0, 1), some (.iconst 4, 1), some (.anewarray 9, 3), none, none, some (.putfield 22, 3), none, none, some (.aload_n 0, 1), some (.new 26, 3), none, none, some (.dup, 1), some (.invokespecial 28, 3), none, none, some (.putfield 29, 3), none, none, some (.aload_n 0, 1), some (.new 33, 3), none, none, some (.dup, 1), some (.invokespecial 35, 3), none, none, some (.putfield 36, 3), none, none, some (.iconst 0, 1), some (.istore_n 1, 1), some (.iload_n 1, 1), some (.iconst 4, 1), some (.if_icmp .ge 22, 3), none, none, some (.aload_n 0, 1), some (.getfield 22, 3), none, none, some (.iload_n 1, 1), some (.new 9, 3), none, none, some (.dup, 1), some (.invokespecial 11, 3), none, none, some (.aastore, 1), some (.iinc 1 1, 3), none, none, some (.goto (-21), 3), none, none, some (.aload_n 0, 1), some (.iconst 0, 1), some (.putfield 40, 3), none, none, some (.aload_n 0, 1), some (.iconst 0, 1), some (.putfield 44, 3), none, none, some (.return_, 1)]
def tb_39 : List (Option (Instr × Nat)) := [some (.iload_n 1, 1), some (.bipush (-5), 2), none, some (.if_icmp .eq 16, 3), none, none, some (.aload_n 0, 1), some (.getfield 12, 3), none, none, some (.iload_n 1, 1), some (.invokevirtual 48, 3), none, none, some (.ifCond .ne 5, 3), none, none, some (.iconst (-1), 1), some (.ireturn, 1), some (.iload_n 2, 1), some (.iload_n 3, 1), some (.invokestatic 52, 3), none, none, some (.ifCond .eq 15, 3), none, none, some (.iload 4, 2), none, some (.ifCond .lt 10, 3), none, none, some (.iload 4, 2), none, some (.bipush 9, 2), none, some (.if_icmp .le 6, 3), none, none, some (.bipush (-2), 2), none, some (.ireturn, 1), some (.aload_n 0, 1), some (.getfield 12, 3), none, none, some (.getfield 56, 3), none, none, some (.bipush 16, 2), none, some (.if_icmp .lt 6, 3), none, none, some (.bipush (-3), 2), none, some (.ireturn, 1), some (.aload_n 0, 1), some (.getfield 12, 3), none, none, some (.getfield 59, 3), none, none, some (.ifCond .eq 6, 3), none, none, some (.bipush (-4), 2), none, some (.ireturn, 1), some (.aload_n 0, 1), some (.invokevirtual 62, 3), none, none, some (.aload_n 0, 1), some (.getfield 12, 3), none, none, some (.iload_n 1, 1), some (.iload_n 2, 1), some (.iload_n 3, 1), some (.iload 4, 2), none, some (.iconst 0, 1), some (.invokevirtual 65, 3), none, none, some (.aload_n 0, 1), some (.getfield 12, 3), none, none, some (.getfield 56, 3), none, none, some (.iconst 1, 1), some (.isub, 1), some (.ireturn, 1)]
def tb_40 : List (Option (Instr × Nat)) := [some (.aload_n 0, 1), some (.getfield 12, 3), none, none, some (.iload_n 1, 1), some (.invokevirtual 48, 3), none, none, some (.ifCond .ne 5, 3), none, none, some (.iconst (-1), 1), some (.ireturn, 1), some (.iload_n 2, 1), some (.ifCond .lt 8, 3), none, none, some (.iload_n 2, 1), some (.iconst 3, 1), some (.if_icmp .le 6, 3), none, none, some (.bipush (-2), 2), none, some (.ireturn, 1), some (.aload_n 0, 1), some (.getfield 12, 3), none, none, some (.getfield 59, 3), none, none, some (.ifCond .eq 6, 3), none, none, some (.bipush (-4), 2), none, some (.ireturn, 1), some (.aload_n 0, 1), some (.getfield 12, 3), none, none, some (.getfield 92, 3), none, none, some (.iload_n 1, 1), some (.iaload, 1), some (.istore_n 3, 1), some (.iload_n 3, 1), some (.iload_n 2, 1), some (.if_icmp .ne 6, 3), none, none, some (.bipush (-5), 2), none, some (.ireturn, 1), some (.aload_n 0, 1), some (.invokevirtual 62, 3), none, none, some (.aload_n 0, 1), some (.getfield 12, 3), none, none, some (.iload_n 1, 1), some (.iload_n 2, 1), some (.invokevirtual 93, 3), none, none, some (.iload_n 3, 1), some (.ireturn, 1)]
def tb_41 : List (Option (Instr × Nat)) := [some (.iload_n 1, 1), some (.invokestatic 97, 3), none, none, some (.ifCond .eq 20, 3), none, none, some (.iload_n 2, 1), some (.bipush (-5), 2), none, some (.if_icmp .eq 16, 3), none, none, some (.aload_n 0, 1), some (.getfield 12, 3), none, none, some (.iload_n 2, 1), some (.invokevirtual 48, 3), none, none, some (.ifCond .ne 5, 3), none, none, some (.iconst (-1), 1), some (.ireturn, 1), some (.iload_n 2, 1), some (.bipush (-5), 2), none, some (.if_icmp .ne 7, 3), none, none, some (.iconst 0, 1), some (.goto 12, 3), none, none, some (.aload_n 0, 1), some (.getfield 12, 3), none, none, some (.getfield 92, 3), none, none, some (.iload_n 2, 1), some (.iaload, 1), some (.istore 4, 2), none, some (.iload_n 3, 1), some (.ifCond .lt 9, 3), none, none, some (.iload_n 3, 1), some (.iload 4, 2), none, some (.if_icmp .le 6, 3), none, none, some (.bipush (-2), 2), none, some (.ireturn, 1), some (.aload_n 0, 1), some (.getfield 12, 3), none, none, some (.getfield 59, 3), none, none, some (.ifCond .eq 6, 3), none, none, some (.bipush (-4), 2), none, some (.ireturn, 1), some (.aload_n 0, 1), some (.getfield 12, 3), none, none, some (.getfield 100, 3), none, none, some (.iload_n 1, 1), some (.iaload, 1), some (.iload_n 2, 1), some (.if_icmp .ne 19, 3), none, none, some (.aload_n 0, 1), some (.getfield 12, 3), none, none, some (.getfield 103, 3), none, none, some (.iload_n 1, 1), some (.iaload, 1), some (.iload_n 3, 1), some (.if_icmp .ne 6, 3), none, none, some (.bipush (-5), 2), none, some (.ireturn, 1), some (.aload_n 0, 1), some (.invokevirtual 62, 3), none, none, some (.aload_n 0, 1), some (.getfield 12, 3), none, none, some (.getfield 100, 3), none, none, some (.iload_n 1, 1), some (.iload_n 2, 1), some (.iastore, 1), some (.aload_n 0, 1), some (.getfield 12, 3), none, none, some (.getfield 103, 3), none, none, some (.iload_n 1, 1), some (.iload_n 3, 1), some (.iastore, 1), some (.aload_n 0, 1), some (.getfield 12, 3), none, none, some (.invokevirtual 106, 3), none, none, some (.ireturn, 1)]
def tb_42 : List (Option (Instr × Nat)) := [some (.aload_n 0, 1), some (.getfield 12, 3), none, none, some (.getfield 59, 3), none, none, some (.ifCond .ne 23, 3), none, none, some (.aload_n 0, 1), some (.getfield 12, 3), none, none, some (.getfield 56, 3), none, none, some (.ifCond .eq 13, 3), none, none, some (.aload_n 0, 1), some (.getfield 12, 3), none, none, some (.invokevirtual 109, 3), none, none, some (.ifCond .ne 6, 3), none, none, some (.bipush (-4), 2), none, some (.ireturn, 1), some (.aload_n 0, 1), some (.invokevirtual 62, 3), none, none, some (.aload_n 0, 1), some (.getfield 12, 3), none, none, some (.invokevirtual 113, 3), none, none, some (.aload_n 0, 1), some (.getfield 12, 3), none, none, some (.iconst 1, 1), some (.putfield 59, 3), none, none, some (.aload_n 0, 1), some (.getfield 12, 3), none, none, some (.getfield 56, 3), none, none, some (.ireturn, 1)]
def tb_43 : List (Option (Instr × Nat)) := [some (.aload_n 0, 1), some (.getfield 12, 3), none, none, some (.getfield 59, 3), none, none, some (.ifCond .ne 6, 3), none, none, some (.bipush (-4), 2), none, some (.ireturn, 1), some (.aload_n 0, 1), some (.getfield 12, 3), none, none, some (.getfield 116, 3), none, none, some (.istore_n 1, 1), some (.aload_n 0, 1), some (.invokevirtual 62, 3), none, none, some (.aload_n 0, 1), some (.getfield 12, 3), none, none, some (.invokevirtual 113, 3), none, none, some (.iload_n 1, 1), some (.ireturn, 1)]
def tb_44 : List (Option (Instr × Nat)) := [some (.aload_n 0, 1), some (.getfield 12, 3), none, none, some (.iload_n 1, 1), some (.invokevirtual 48, 3), none, none, some (.ifCond .ne 5, 3), none, none, some (.iconst (-1), 1), some (.ireturn, 1), some (.aload_n 0, 1), some (.getfield 12, 3), none, none, some (.getfield 59, 3), none, none, some (.ifCond .ne 6, 3), none, none, some (.bipush (-4), 2), none, some (.ireturn, 1), some (.aload_n 0, 1), some (.getfield 12, 3), none, none, some (.iload_n 1, 1), some (.invokevirtual 119, 3), none, none, some (.ifCond .eq 6, 3), none, none, some (.bipush (-5), 2), none, some (.ireturn, 1), some (.aload_n 0, 1), some (.getfield 12, 3), none, none, some (.iload_n 1, 1), some (.invokevirtual 122, 3), none, none, some (.ifCond .ne 6, 3), none, none, some (.bipush (-4), 2), none, some (.ireturn, 1), some (.aload_n 0, 1), some (.invokevirtual 62, 3), none, none, some (.aload_n 0, 1), some (.getfield 12, 3), none, none, some (.iload_n 1, 1), some (.invokevirtual 125, 3), none, none, some (.aload_n 0, 1), some (.getfield 12, 3), none, none, some (.iconst 4, 1), some (.aload_n 0, 1), some (.getfield 12, 3), none, none, some (.getfield 129, 3), none, none, some (.iload_n 1, 1), some (.iaload, 1), some (.iadd, 1), some (.invokevirtual 132, 3), none, none, some (.aload_n 0, 1), some (.getfield 12, 3), none, none, some (.getfield 135, 3), none, none, some (.invokestatic 138, 3), none, none, some (.ireturn, 1)]
def tb_45 : List (Option (Instr × Nat)) := [some (.aload_n 0, 1), some (.getfield 12, 3), none, none, some (.iload_n 1, 1), some (.invokevirtual 48, 3), none, none, some (.ifCond .ne 5, 3), none, none, some (.iconst (-1), 1), some (.ireturn, 1), some (.aload_n 0, 1), some (.getfield 12, 3), none, none, some (.getfield 59, 3), none, none, some (.ifCond .ne 6, 3), none, none, some (.bipush (-4), 2), none, some (.ireturn, 1), some (.aload_n 0, 1), some (.getfield 12, 3), none, none, some (.iload_n 1, 1), some (.invokevirtual 119, 3), none, none, some (.ifCond .ne 6, 3), none, none, some (.bipush (-5), 2), none, some (.ireturn, 1), some (.aload_n 0, 1), some (.getfield 12, 3), none, none, some (.iload_n 1, 1), some (.invokevirtual 144, 3), none, none, some (.ifCond .ne 6, 3), none, none, some (.bipush (-4), 2), none, some (.ireturn, 1), some (.aload_n 0, 1), some (.invokevirtual 62, 3), none, none, some (.aload_n 0, 1), some (.getfield 12, 3), none, none, some (.dup, 1), some (.getfield 135, 3), none, none, some (.iload_n 1, 1), some (.invokestatic 147, 3), none, none, some (.iconst (-1), 1), some (.ixor, 1), some (.iand, 1), some (.putfield 135, 3), none, none, some (.aload_n 0, 1), some (.getfield 12, 3), none, none, some (.iconst 4, 1), some (.aload_n 0, 1), some (.getfield 12, 3), none, none, some (.getfield 129, 3), none, none, some (.iload_n 1, 1), some (.iaload, 1), some (.iadd, 1), some (.invokevirtual 132, 3), none, none, some (.aload_n 0, 1), some (.getfield 12, 3), none, none, some (.getfield 135, 3), none, none, some (.invokestatic 138, 3), none, none, some (.ireturn, 1)]
def tb_46 : List (Option (Instr × Nat)) := [some (.aload_n 0, 1), some (.getfield 12, 3), none, none, some (.iload_n 1, 1), some (.invokevirtual 48, 3), none, none, some (.ifCond .ne 5, 3), none, none, some (.iconst (-1), 1), some (.ireturn, 1), some (.aload_n 0, 1), some (.getfield 12, 3), none, none, some (.getfield 59, 3), none, none, some (.ifCond .ne 6, 3), none, none, some (.bipush (-4), 2), none, some (.ireturn, 1), some (.aload_n 0, 1), some (.getfield 12, 3), none, none, some (.iload_n 1, 1), some (.invokevirtual 150, 3), none, none, some (.ifCond .ne 6, 3), none, none, some (.bipush (-5), 2), none, some (.ireturn, 1), some (.aload_n 0, 1), some (.getfield 12, 3), none, none, some (.iload_n 1, 1), some (.invokevirtual 153, 3), none, none, some (.ifCond .ne 6, 3), none, none, some (.bipush (-4), 2), none, some (.ireturn, 1), some (.aload_n 0, 1), some (.invokevirtual 62, 3), none, none, some (.aload_n 0, 1), some (.getfield 12, 3), none, none, some (.getfield 156, 3), none, none, some (.iload_n 1, 1), some (.dup2, 1), some (.iaload, 1), some (.iconst 1, 1), some (.iadd, 1), some (.iastore, 1), some (.aload_n 0, 1), some (.getfield 12, 3), none, none, some (.bipush 10, 2), none, some (.invokevirtual 132, 3), none, none, some (.aload_n 0, 1), some (.getfield 12, 3), none, none, some (.getfield 156, 3), none, none, some (.iload_n 1, 1), some (.iaload, 1), some (.ireturn, 1)]
def tb_47 : List (Option (Instr × Nat)) := [some (.iload_n 1, 1), some (.invokestatic 97, 3), none, none, some (.ifCond .ne 5, 3), none, none, some (.iconst (-1), 1), some (.ireturn, 1), some (.aload_n 0, 1), some (.getfield 12, 3), none, none, some (.getfield 59, 3), none, none, some (.ifCond .ne 6, 3), none, none, some (.bipush (-4), 2), none, some (.ireturn, 1), some (.aload_n 0, 1), some (.getfield 12, 3), none, none, some (.iload_n 1, 1), some (.invokevirtual 159, 3), none, none, some (.ifCond .eq 6, 3), none, none, some (.bipush (-5), 2), none, some (.ireturn, 1), some (.aload_n 0, 1), some (.getfield 12, 3), none, none, some (.iload_n 1, 1), some (.invokevirtual 162, 3), none, none, some (.ifCond .ne 6, 3), none, none, some (.bipush (-4), 2), none, some (.ireturn, 1), some (.aload_n 0, 1), some (.invokevirtual 62, 3), none, none, some (.aload_n 0, 1), some (.getfield 12, 3), none, none, some (.dup, 1), some (.getfield 165, 3), none, none, some (.iload_n 1, 1), some (.invokestatic 147, 3), none, none, some (.ior, 1), some (.putfield 165, 3), none, none, some (.aload_n 0, 1), some (.getfield 12, 3), none, none, some (.iconst 1, 1), some (.invokevirtual 132, 3), none, none, some (.aload_n 0, 1), some (.getfield 12, 3), none, none, some (.getfield 165, 3), none, none, some (.invokestatic 138, 3), none, none, some (.ireturn, 1)]
def tb_48 : List (Option (Instr × Nat)) := [some (.aload_n 0, 1), some (.getfield 12, 3), none, none, some (.iload_n 1, 1), some (.invokevirtual 48, 3), none, none, some (.ifCond .ne 5, 3), none, none, some (.iconst (-1), 1), some (.ireturn, 1), some (.aload_n 0, 1), some (.getfield 12, 3), none, none, some (.getfield 59, 3), none, none, some (.ifCond .ne 6, 3), none, none, some (.bipush (-4), 2), none, some (.ireturn, 1), some (.aload_n 0, 1), some (.getfield 12, 3), none, none, some (.getfield 168, 3), none, none, some (.iload_n 1, 1), some (.invokestatic 171, 3), none, none, some (.ifCond .ne 6, 3), none, none, some (.bipush (-5), 2), none, some (.ireturn, 1), some (.aload_n 0, 1), some (.getfield 12, 3), none, none, some (.iload_n 1, 1), some (.invokevirtual 174, 3), none, none, some (.ifCond .ne 6, 3), none, none, some (.bipush (-4), 2), none, some (.ireturn, 1), some (.aload_n 0, 1), some (.invokevirtual 62, 3), none, none, some (.aload_n 0, 1), some (.getfield 12, 3), none, none, some (.dup, 1), some (.getfield 168, 3), none, none, some (.iload_n 1, 1), some (.invokestatic 147, 3), none, none, some (.iconst (-1), 1), some (.ixor, 1), some (.iand, 1), some (.putfield 168, 3), none, none, some (.aload_n 0, 1), some (.getfield 12, 3), none, none, some (.bipush 12, 2), none, some (.invokevirtual 132, 3), none, none, some (.aload_n 0, 1), some (.getfield 12, 3), none, none, some (.getfield 168, 3), none, none, some (.invokestatic 138, 3), none, none, some (.ireturn, 1)]
def tb_49 : List (Option (Instr × Nat)) := [some (.aload_n 0, 1), some (.getfield 40, 3), none, none, some (.ifCond .gt 6, 3), none, none, some (.bipush (-5), 2), none, some (.ireturn, 1), some (.aload_n 0, 1), some (.dup, 1), some (.getfield 40, 3), none, none, some (.iconst 1, 1), some (.isub, 1), some (.putfield 40, 3), none, none, some (.aload_n 0, 1), some (.getfield 22, 3), none, none, some (.aload_n 0, 1), some (.getfield 40, 3), none, none, some (.aaload, 1), some (.aload_n 0, 1), some (.getfield 12, 3), none, none, some (.invokestatic 184, 3), none, none, some (.aload_n 0, 1), some (.getfield 40, 3), none, none, some (.ireturn, 1)]
def tb_50 : List (Option (Instr × Nat)) := [some (.aload_n 0, 1), some (.getfield 12, 3), none, none, some (.iload_n 1, 1), some (.invokevirtual 48, 3), none, none, some (.ifCond .ne 5, 3), none, none, some (.iconst (-1), 1), some (.ireturn, 1), some (.iload_n 2, 1), some (.tableswitch 175 0 10 #[58, 68, 78, 88, 98, 108, 118, 130, 145, 157, 166], 58), none, none, none, none, none, none, none, none, none, none, none, none, none, none, none, none, none, none, none, none, none, none, none, none, none, none, none, none, none, none, none, none, none, none, none, none, none, none, none, none, none, none, none, none, none, none, none, none, none, none, none, none, none, none, none, none, none, some (.aload_n 0, 1), some (.getfield 12, 3), none, none, some (.getfield 188, 3), none, none, some (.iload_n 1, 1), some (.iaload, 1), some (.ireturn, 1), some (.aload_n 0, 1), some (.getfield 12, 3), none, none, some (.getfield 189, 3), none, none, some (.iload_n 1, 1), some (.iaload, 1), some (.ireturn, 1), some (.aload_n 0, 1), some (.getfield 12, 3), none, none, some (.getfield 190, 3), none, none, some (.iload_n 1, 1), some (.iaload, 1), some (.ireturn, 1), some (.aload_n 0, 1), some (.getfield 12, 3), none, none, some (.getfield 129, 3), none, none, some (.iload_n 1, 1), some (.iaload, 1), some (.ireturn, 1), some (.aload_n 0, 1), some (.getfield 12, 3), none, none, some (.getfield 92, 3), none, none, some (.iload_n 1, 1), some (.iaload, 1), some (.ireturn, 1), some (.aload_n 0, 1), some (.getfield 12, 3), none, none, some (.getfield 156, 3), none, none, some (.iload_n 1, 1), some (.iaload, 1), some (.ireturn, 1), some (.aload_n 0, 1), some (.getfield 12, 3), none, none, some (.iload_n 1, 1), some (.invokevirtual 119, 3), none, none, some (.invokestatic 191, 3), none, none, some (.ireturn, 1), some (.aload_n 0, 1), some (.getfield 12, 3), none, none, some (.getfield 168, 3), none, none, some (.iload_n 1, 1), some (.invokestatic 171, 3), none, none, some (.invokestatic 191, 3), none, none, some (.ireturn, 1), some (.aload_n 0, 1), some (.getfield 12, 3), none, none, some (.iload_n 1, 1), some (.invokevirtual 144, 3), none, none, some (.invokestatic 191, 3), none, none, some (.ireturn, 1), some (.aload_n 0, 1), some (.getfield 12, 3), none, none, some (.iload_n 1, 1), some (.invokevirtual 195, 3), none, none, some (.ireturn, 1), some (.aload_n 0, 1), some (.getfield 12, 3), none, none, some (.iload_n 1, 1), some (.invokevirtual 198, 3), none, none, some (.ireturn, 1), some (.bipush (-2), 2), none, some (.ireturn, 1)]
def tb_51 : List (Option (Instr × Nat)) := [some (.iload_n 1, 1), some (.invokestatic 97, 3), none, none, some (.ifCond .ne 5, 3), none, none, some (.iconst (-1), 1), some (.ireturn, 1), some (.aload_n 0, 1), some (.getfield 12, 3), none, none, some (.iload_n 1, 1), some (.invokevirtual 159, 3), none, none, some (.istore_n 3, 1), some (.iload_n 2, 1), some (.tableswitch 101 0 3 #[29, 48, 66, 71], 29), none, none, none, none, none, none, none, none, none, none, none, none, none, none, none, none, none, none, none, none, none, none, none, none, none, none, none, none, some (.iload_n 3, 1), some (.ifCond .eq 8, 3), none, none, some (.bipush (-5), 2), none, some (.goto 12, 3), none, none, some (.aload_n 0, 1), some (.getfield 12, 3), none, none, some (.getfield 100, 3), none, none, some (.iload_n 1, 1), some (.iaload, 1), some (.ireturn, 1), some (.iload_n 3, 1), some (.ifCond .eq 7, 3), none, none, some (.iconst 0, 1), some (.goto 12, 3), none, none, some (.aload_n 0, 1), some (.getfield 12, 3), none, none, some (.getfield 103, 3), none, none, some (.iload_n 1, 1), some (.iaload, 1), some (.ireturn, 1), some (.iload_n 3, 1), some (.invokestatic 191, 3), none, none, some (.ireturn, 1), some (.aload_n 0, 1), some (.getfield 12, 3), none, none, some (.getfield 59, 3), none, none, some (.ifCond .eq 18, 3), none, none, some (.aload_n 0, 1), some (.getfield 12, 3), none, none, some (.iload_n 1, 1), some (.invokevirtual 162, 3), none, none, some (.ifCond .eq 7, 3), none, none, some (.iconst 1, 1), some (.goto 4, 3), none, none, some (.iconst 0, 1), some (.invokestatic 191, 3), none, none, some (.ireturn, 1), some (.bipush (-2), 2), none, some (.ireturn, 1)]
def tb_52 : List (Option (Instr × Nat)) := [some (.aload_n 0, 1), some (.getfield 12, 3), none, none, some (.iload_n 1, 1), some (.invokevirtual 48, 3), none, none, some (.ifCond .ne 5, 3), none, none, some (.iconst (-1), 1), some (.ireturn, 1), some (.iload_n 2, 1), some (.ifCond .lt 8, 3), none, none, some (.iload_n 2, 1), some (.iconst 4, 1), some (.if_icmp .le 6, 3), none, none, some (.bipush (-2), 2), none, some (.ireturn, 1), some (.aload_n 0, 1), some (.iload_n 1, 1), some (.invokevirtual 201, 3), none, none, some (.ifCond .ne 6, 3), none, none, some (.bipush (-4), 2), none, some (.ireturn, 1), some (.aload_n 0, 1), some (.getfield 29, 3), none, none, some (.aload_n 0, 1), some (.getfield 12, 3), none, none, some (.iload_n 1, 1), some (.invokevirtual 204, 3), none, none, some (.iload_n 2, 1), some (.tableswitch 71 0 3 #[31, 43, 51, 59], 31), none, none, none, none, none, none, none, none, none, none, none, none, none, none, none, none, none, none, none, none, none, none, none, none, none, none, none, none, none, none, some (.aload_n 0, 1), some (.getfield 29, 3), none, none, some (.aload_n 0, 1), some (.getfield 12, 3), none, none, some (.invokevirtual 208, 3), none, none, some (.ireturn, 1), some (.aload_n 0, 1), some (.getfield 29, 3), none, none, some (.getfield 212, 3), none, none, some (.ireturn, 1), some (.aload_n 0, 1), some (.getfield 29, 3), none, none, some (.getfield 215, 3), none, none, some (.ireturn, 1), some (.aload_n 0, 1), some (.getfield 29, 3), none, none, some (.aload_n 0, 1), some (.getfield 12, 3), none, none, some (.invokevirtual 218, 3), none, none, some (.ireturn, 1), some (.aload_n 0, 1), some (.getfield 12, 3), none, none, some (.aload_n 0, 1), some (.getfield 29, 3), none, none, some (.getfield 212, 3), none, none, some (.invokevirtual 221, 3), none, none, some (.ireturn, 1)]
def tb_53 : List (Option (Instr × Nat)) := [some (.aload_n 0, 1), some (.getfield 12, 3), none, none, some (.iload_n 1, 1), some (.invokevirtual 48, 3), none, none, some (.ifCond .ne 5, 3), none, none, some (.iconst (-1), 1), some (.ireturn, 1), some (.aload_n 0, 1), some (.getfield 12, 3), none, none, some (.getfield 59, 3), none, none, some (.ifCond .eq 11, 3), none, none, some (.aload_n 0, 1), some (.iload_n 1, 1), some (.invokevirtual 201, 3), none, none, some (.ifCond .ne 6, 3), none, none, some (.bipush (-4), 2), none, some (.ireturn, 1), some (.aload_n 0, 1), some (.getfield 29, 3), none, none, some (.aload_n 0, 1), some (.getfield 12, 3), none, none, some (.iload_n 1, 1), some (.invokevirtual 204, 3), none, none, some (.aload_n 0, 1), some (.getfield 29, 3), none, none, some (.aload_n 0, 1), some (.getfield 12, 3), none, none, some (.invokevirtual 224, 3), none, none, some (.ireturn, 1)]
def tb_54 : List (Option (Instr × Nat)) := [some (.aload_n 0, 1), some (.getfield 12, 3), none, none, some (.getfield 59, 3), none, none, some (.ifCond .eq 18, 3), none, none, some (.aload_n 0, 1), some (.getfield 12, 3), none, none, some (.getfield 227, 3), none, none, some (.i2d, 1), some (.ldc2_w 230, 3), none, none, some (.ddiv, 1), some (.goto 6, 3), none, none, some (.ldc2_w 232, 3), none, none, some (.dreturn, 1)]
def tb_55 : List (Option (Instr × Nat)) := [some (.aload_n 0, 1), some (.getfield 12, 3), none, none, some (.getfield 59, 3), none, none, some (.ifCond .eq 14, 3), none, none, some (.aload_n 0, 1), some (.invokevirtual 234, 3), none, none, some (.d2f, 1), some (.invokestatic 238, 3), none, none, some (.goto 4, 3), none, none, some (.iconst 0, 1), some (.ireturn, 1)]
def tb_56 : List (Option (Instr × Nat)) := [some (.iload_n 1, 1), some (.tableswitch 172 0 10 #[59, 67, 78, 89, 97, 108, 116, 132, 137, 159, 164], 59), none, none, none, none, none, none, none, none, none, none, none, none, none, none, none, none, none, none, none, none, none, none, none, none, none, none, none, none, none, none, none, none, none, none, none, none, none, none, none, none, none, none, none, none, none, none, none, none, none, none, none, none, none, none, none, none, none, none, some (.aload_n 0, 1), some (.getfield 12, 3), none, none, some (.getfield 56, 3), none, none, some (.ireturn, 1), some (.aload_n 0, 1), some (.getfield 12, 3), none, none, some (.getfield 59, 3), none, none, some (.invokestatic 191, 3), none, none, some (.ireturn, 1), some (.aload_n 0, 1), some (.getfield 12, 3), none, none, some (.getfield 135, 3), none, none, some (.invokestatic 138, 3), none, none, some (.ireturn, 1), some (.aload_n 0, 1), some (.getfield 12, 3), none, none, some (.getfield 165, 3), none, none, some (.ireturn, 1), some (.aload_n 0, 1), some (.getfield 12, 3), none, none, some (.getfield 168, 3), none, none, some (.invokestatic 138, 3), none, none, some (.ireturn, 1), some (.aload_n 0, 1), some (.getfield 12, 3), none, none, some (.getfield 116, 3), none, none, some (.ireturn, 1), some (.aload_n 0, 1), some (.invokevirtual 242, 3), none, none, some (.ifCond .ne 7, 3), none, none, some (.iconst 1, 1), some (.goto 4, 3), none, none, some (.iconst 0, 1), some (.invokestatic 191, 3), none, none, some (.ireturn, 1), some (.aload_n 0, 1), some (.invokevirtual 242, 3), none, none, some (.ireturn, 1), some (.aload_n 0, 1), some (.getfield 12, 3), none, none, some (.getfield 59, 3), none, none, some (.ifCond .eq 13, 3), none, none, some (.aload_n 0, 1), some (.getfield 12, 3), none, none, some (.invokevirtual 245, 3), none, none, some (.goto 4, 3), none, none, some (.iconst 0, 1), some (.ireturn, 1), some (.aload_n 0, 1), some (.getfield 40, 3), none, none, some (.ireturn, 1), some (.aload_n 0, 1), some (.getfield 36, 3), none, none, some (.getfield 181, 3), none, none, some (.ireturn, 1), some (.bipush (-2), 2), none, some (.ireturn, 1)]
def tb_57 : List (Option (Instr × Nat)) := [some (.iload_n 0, 1), some (.tableswitch 65 0 3 #[31, 33, 49, 31], 31), none, none, none, none, none, none, none, none, none, none, none, none, none, none, none, none, none, none, none, none, none, none, none, none, none, none, none, none, none, none, some (.iconst 1, 1), some (.ireturn, 1), some (.iload_n 1, 1), some (.ifCond .lt 13, 3), none, none, some (.iload_n 1, 1), some (.bipush 10, 2), none, some (.if_icmp .ge 7, 3), none, none, some (.iconst 1, 1), some (.goto 4, 3), none, none, some (.iconst 0, 1), some (.ireturn, 1), some (.iload_n 1, 1), some (.ifCond .lt 13, 3), none, none, some (.iload_n 1, 1), some (.bipush 16, 2), none, some (.if_icmp .ge 7, 3), none, none, some (.iconst 1, 1), some (.goto 4, 3), none, none, some (.iconst 0, 1), some (.ireturn, 1), some (.iconst 0, 1), some (.ireturn, 1)]
def tb_58 : List (Option (Instr × Nat)) := [some (.iload_n 0, 1), some (.ifCond .lt 13, 3), none, none, some (.iload_n 0, 1), some (.bipush 12, 2), none, some (.if_icmp .ge 7, 3), none, none, some (.iconst 1, 1), some (.goto 4, 3), none, none, some (.iconst 0, 1), some (.ireturn, 1)]
def tb_59 : List (Option (Instr × Nat)) := [some (.iload_n 0, 1), some (.ifCond .eq 7, 3), none, none, some (.iconst 1, 1), some (.goto 4, 3), none, none, some (.iconst 0, 1), some (.ireturn, 1)]
def tb_60 : List (Option (Instr × Nat)) := [some (.iconst 1, 1), some (.iload_n 0, 1), some (.ishl, 1), some (.ireturn, 1)]
def tb_61 : List (Option (Instr × Nat)) := [some (.iload_n 0, 1), some (.iconst 1, 1), some (.iload_n 1, 1), some (.ishl, 1), some (.iand, 1), some (.ifCond .eq 7, 3), none, none, some (.iconst 1, 1), some (.goto 4, 3), none, none, some (.iconst 0, 1), some (.ireturn, 1)]
def tb_62 : List (Option (Instr × Nat)) := [some (.fload_n 0, 1), some (.fconst 0, 1), some (.fcmp .g, 1), some (.ifCond .gt 5, 3), none, none, some (.iconst 0, 1), some (.ireturn, 1), some (.bipush 127, 2), none, some (.istore_n 1, 1), some (.fload_n 0, 1), some (.fstore_n 2, 1), some (.iconst 0, 1), some (.istore_n 3, 1), some (.iload_n 3, 1), some (.sipush 128, 3), none, none, some (.if_icmp .ge 22, 3), none, none, some (.fload_n 2, 1), some (.fconst 2, 1), some (.fcmp .l, 1), some (.ifCond .lt 16, 3), none, none, some (.fload_n 2, 1), some (.fconst 2, 1), some (.fdiv, 1), some (.fstore_n 2, 1), some (.iinc 1 1, 3), none, none, some (.iinc 3 1, 3), none, none, some (.goto (-23), 3), none, none, some (.iconst 0, 1), some (.istore_n 3, 1), some (.iload_n 3, 1), some (.sipush 128, 3), none, none, some (.if_icmp .ge 22, 3), none, none, some (.fload_n 2, 1), some (.fconst 1, 1), some (.fcmp .g, 1), some (.ifCond .ge 16, 3), none, none, some (.fload_n 2, 1), some (.fconst 2, 1), some (.fmul, 1), some (.fstore_n 2, 1), some (.iinc 1 (-1), 3), none, none, some (.iinc 3 1, 3), none, none, some (.goto (-23), 3), none, none, some (.fload_n 2, 1), some (.fconst 1, 1), some (.fsub, 1), some (.ldc 248, 2), none, some (.fmul, 1), some (.f2i, 1), some (.istore_n 3, 1), some (.iload_n 1, 1), some (.bipush 23, 2), none, some (.ishl, 1), some (.iload_n 3, 1), some (.ior, 1), some (.ireturn, 1)]
def tb_63 : List (Option (Instr × Nat)) := [some (.aload_n 0, 1), some (.getfield 40, 3), none, none, some (.iconst 4, 1), some (.if_icmp .lt 7, 3), none, none, some (.aload_n 0, 1), some (.invokevirtual 249, 3), none, none, some (.aload_n 0, 1), some (.getfield 12, 3), none, none, some (.aload_n 0, 1), some (.getfield 22, 3), none, none, some (.aload_n 0, 1), some (.getfield 40, 3), none, none, some (.aaload, 1), some (.invokestatic 184, 3), none, none, some (.aload_n 0, 1), some (.dup, 1), some (.getfield 40, 3), none, none, some (.iconst 1, 1), some (.iadd, 1), some (.putfield 40, 3), none, none, some (.return_, 1)]
def tb_64 : List (Option (Instr × Nat)) := [some (.aload_n 0, 1), some (.getfield 22, 3), none, none, some (.iconst 0, 1), some (.aaload, 1), some (.astore_n 1, 1), some (.iconst 1, 1), some (.istore_n 2, 1), some (.iload_n 2, 1), some (.iconst 4, 1), some (.if_icmp .ge 23, 3), none, none, some (.aload_n 0, 1), some (.getfield 22, 3), none, none, some (.iload_n 2, 1), some (.iconst 1, 1), some (.isub, 1), some (.aload_n 0, 1), some (.getfield 22, 3), none, none, some (.iload_n 2, 1), some (.aaload, 1), some (.aastore, 1), some (.iinc 2 1, 3), none, none, some (.goto (-22), 3), none, none, some (.aload_n 0, 1), some (.getfield 22, 3), none, none, some (.iconst 3, 1), some (.aload_n 1, 1), some (.aastore, 1), some (.aload_n 0, 1), some (.iconst 3, 1), some (.putfield 40, 3), none, none, some (.return_, 1)]
def tb_65 : List (Option (Instr × Nat)) := [some (.aload_n 0, 1), some (.ifnull 12, 3), none, none, some (.aload_n 1, 1), some (.ifnull 8, 3), none, none, some (.aload_n 1, 1), some (.aload_n 0, 1), some (.invokevirtual 252, 3), none, none, some (.return_, 1)]
def tb_66 : List (Option (Instr × Nat)) := [some (.aload_n 0, 1), some (.getfield 12, 3), none, none, some (.aload_n 0, 1), some (.getfield 19, 3), none, none, some (.invokestatic 184, 3), none, none, some (.aload_n 0, 1), some (.getfield 19, 3), none, none, some (.invokevirtual 256, 3), none, none, some (.aload_n 0, 1), some (.getfield 19, 3), none, none, some (.iload_n 1, 1), some (.invokevirtual 119, 3), none, none, some (.ifCond .eq 18, 3), none, none, some (.aload_n 0, 1), some (.getfield 19, 3), none, none, some (.iload_n 1, 1), some (.invokevirtual 144, 3), none, none, some (.ifCond .eq 7, 3), none, none, some (.iconst 1, 1), some (.goto 4, 3), none, none, some (.iconst 0, 1), some (.ireturn, 1)]
def tb_67 : List (Option (Instr × Nat)) := [some (.aload_n 0, 1), some (.getfield 12, 3), none, none, some (.aload_n 0, 1), some (.getfield 19, 3), none, none, some (.invokestatic 184, 3), none, none, some (.aload_n 0, 1), some (.getfield 19, 3), none, none, some (.invokevirtual 113, 3), none, none, some (.aload_n 0, 1), some (.getfield 19, 3), none, none, some (.invokevirtual 256, 3), none, none, some (.aload_n 0, 1), some (.getfield 19, 3), none, none, some (.getfield 56, 3), none, none, some (.invokestatic 147, 3), none, none, some (.iconst 1, 1), some (.isub, 1), some (.aload_n 0, 1), some (.getfield 19, 3), none, none, some (.getfield 135, 3), none, none, some (.iconst (-1), 1), some (.ixor, 1), some (.iand, 1), some (.ireturn, 1)]
def tb_68 : List (Option (Instr × Nat)) := [some (.iload_n 0, 1), some (.iload_n 0, 1), some (.iconst 1, 1), some (.iushr, 1), some (.ldc_w 265, 3), none, none, some (.iand, 1), some (.isub, 1), some (.istore_n 0, 1), some (.iload_n 0, 1), some (.ldc_w 266, 3), none, none, some (.iand, 1), some (.iload_n 0, 1), some (.iconst 2, 1), some (.iushr, 1), some (.ldc_w 266, 3), none, none, some (.iand, 1), some (.iadd, 1), some (.istore_n 0, 1), some (.iload_n 0, 1), some (.iload_n 0, 1), some (.iconst 4, 1), some (.iushr, 1), some (.iadd, 1), some (.ldc_w 267, 3), none, none, some (.iand, 1), some (.istore_n 0, 1), some (.iload_n 0, 1), some (.iload_n 0, 1), some (.bipush 8, 2), none, some (.iushr, 1), some (.iadd, 1), some (.istore_n 0, 1), some (.iload_n 0, 1), some (.iload_n 0, 1), some (.bipush 16, 2), none, some (.iushr, 1), some (.iadd, 1), some (.istore_n 0, 1), some (.iload_n 0, 1), some (.bipush 63, 2), none, some (.iand, 1), some (.ireturn, 1)]
def tb_69 : List (Option (Instr × Nat)) := [some (.iload_n 0, 1), some (.iload_n 1, 1), some (.if_icmp .lt 7, 3), none, none, some (.iload_n 0, 1), some (.goto 4, 3), none, none, some (.iload_n 1, 1), some (.ireturn, 1)]
def tb_70 : List (Option (Instr × Nat)) := [some (.iload_n 1, 1), some (.aload_n 0, 1), some (.arraylength, 1), some (.if_icmp .ge 9, 3), none, none, some (.aload_n 0, 1), some (.iload_n 1, 1), some (.iaload, 1), some (.goto 11, 3), none, none, some (.ldc 7, 2), none, some (.iload_n 1, 1), some (.imul, 1), some (.sipush 1309, 3), none, none, some (.iadd, 1), some (.ldc 8, 2), none, some (.iand, 1), some (.ireturn, 1)]
def tb_71 : List (Option (Instr × Nat)) := [some (.iconst 0, 1), some (.istore_n 1, 1), some (.iconst 0, 1), some (.istore_n 2, 1), some (.iload_n 2, 1), some (.bipush 16, 2), none, some (.if_icmp .ge 17, 3), none, none, some (.iload_n 1, 1), some (.iload_n 0, 1), some (.iload_n 2, 1), some (.ishr, 1), some (.iconst 1, 1), some (.iand, 1), some (.iadd, 1), some (.istore_n 1, 1), some (.iinc 2 1, 3), none, none, some (.goto (-17), 3), none, none, some (.iload_n 1, 1), some (.ireturn, 1)]
def tb_72 : List (Option (Instr × Nat)) := [some (.aload_n 0, 1), some (.iload_n 1, 1), some (.iconst 0, 1), some (.invokevirtual 9, 3), none, none, some (.istore_n 2, 1), some (.iload_n 2, 1), some (.ifCond .ge 36, 3), none, none, some (.iload_n 2, 1), some (.bipush (-4), 2), none, some (.if_icmp .ne 28, 3), none, none, some (.aload_n 0, 1), some (.iload_n 1, 1), some (.iconst 1, 1), some (.invokevirtual 9, 3), none, none, some (.bipush (-4), 2), none, some (.if_icmp .ne 17, 3), none, none, some (.aload_n 0, 1), some (.iload_n 1, 1), some (.invokevirtual 15, 3), none, none, some (.bipush (-4), 2), none, some (.if_icmp .ne 7, 3), none, none, some (.iconst 1, 1), some (.goto 4, 3), none, none, some (.iconst 0, 1), some (.ireturn, 1), some (.aload_n 0, 1), some (.iload_n 1, 1), some (.iconst 1, 1), some (.invokevirtual 9, 3), none, none, some (.istore_n 3, 1), some (.aload_n 0, 1), some (.iload_n 1, 1), some (.iconst 2, 1), some (.invokevirtual 9, 3), none, none, some (.istore 4, 2), none, some (.iload_n 2, 1), some (.iload_n 3, 1), some (.invokestatic 19, 3), none, none, some (.iload 4, 2), none, some (.invokestatic 19, 3), none, none, some (.iadd, 1), some (.aload_n 0, 1), some (.iload_n 1, 1), some (.iconst 3, 1), some (.invokevirtual 9, 3), none, none, some (.iadd, 1), some (.if_icmp .ne 31, 3), none, none, some (.aload_n 0, 1), some (.iload_n 1, 1), some (.iconst 4, 1), some (.invokevirtual 9, 3), none, none, some (.iload_n 3, 1), some (.invokestatic 19, 3), none, none, some (.if_icmp .gt 18, 3), none, none, some (.iload 4, 2), none, some (.aload_n 0, 1), some (.iconst 3, 1), some (.invokevirtual 24, 3), none, none, some (.iand, 1), some (.ifCond .ne 7, 3), none, none, some (.iconst 1, 1), some (.goto 4, 3), none, none, some (.iconst 0, 1), some (.istore 5, 2), none, some (.iload 5, 2), none, some (.ifCond .eq 41, 3), none, none, some (.aload_n 0, 1), some (.iload_n 1, 1), some (.iconst 3, 1), some (.invokevirtual 9, 3), none, none, some (.ifCond .eq 28, 3), none, none, some (.aload_n 0, 1), some (.iconst 3, 1), some (.invokevirtual 24, 3), none, none, some (.bipush 10, 2), none, some (.ishr, 1), some (.iconst 1, 1), some (.iand, 1), some (.iconst 1, 1), some (.if_icmp .eq 14, 3), none, none, some (.iload 4, 2), none, some (.bipush 10, 2), none, some (.ishr, 1), some (.iconst 1, 1), some (.iand, 1), some (.iconst 1, 1), some (.if_icmp .ne 7, 3), none, none, some (.iconst 1, 1), some (.goto 4, 3), none, none, some (.iconst 0, 1), some (.istore 5, 2), none, some (.iconst 0, 1), some (.istore 6, 2), none, some (.iload 6, 2), none, some (.aload_n 0, 1), some (.iconst 0, 1), some (.invokevirtual 24, 3), none, none, some (.if_icmp .ge 215, 3), none, none, some (.iload 5, 2), none, some (.ifCond .eq 210, 3), none, none, some (.iload_n 3, 1), some (.iload 6, 2), none, some (.ishr, 1), some (.iconst 1, 1), some (.iand, 1), some (.ifCond .eq 14, 3), none, none, some (.aload_n 0, 1), some (.iload 6, 2), none, some (.bipush 6, 2), none, some (.invokevirtual 27, 3), none, none, some (.ifCond .ne 7, 3), none, none, some (.iconst 1, 1), some (.goto 4, 3), none, none, some (.iconst 0, 1), some (.istore 5, 2), none, some (.aload_n 0, 1), some (.iload 6, 2), none, some (.iconst 0, 1), some (.invokevirtual 27, 3), none, none, some (.istore 7, 2), none, some (.iload 5, 2), none, some (.ifCond .eq 43, 3), none, none, some (.iload_n 3, 1), some (.iload 6, 2), none, some (.ishr, 1), some (.iconst 1, 1), some (.iand, 1), some (.ifCond .eq 30, 3), none, none, some (.iload 7, 2), none, some (.ifCond .lt 25, 3), none, none, some (.aload_n 0, 1), some (.iload 7, 2), none, some (.bipush 6, 2), none, some (.invokevirtual 27, 3), none, none, some (.iconst 1, 1), some (.if_icmp .eq 13, 3), none, none, some (.iload_n 3, 1), some (.iload 7, 2), none, some (.ishr, 1), some (.iconst 1, 1), some (.iand, 1), some (.iconst 1, 1), some (.if_icmp .ne 7, 3), none, none, some (.iconst 1, 1), some (.goto 4, 3), none, none, some (.iconst 0, 1), some (.istore 5, 2), none, some (.aload_n 0, 1), some (.iload 6, 2), none, some (.iconst 2, 1), some (.invokevirtual 27, 3), none, none, some (.istore 8, 2), none, some (.iload 5, 2), none, some (.ifCond .eq 49, 3), none, none, some (.iload_n 3, 1), some (.iload 6, 2), none, some (.ishr, 1), some (.iconst 1, 1), some (.iand, 1), some (.ifCond .eq 36, 3), none, none, some (.aload_n 0, 1), some (.iload 6, 2), none, some (.iconst 1, 1), some (.invokevirtual 27, 3), none, none, some (.iconst 1, 1), some (.if_icmp .ne 25, 3), none, none, some (.aload_n 0, 1), some (.iload 8, 2), none, some (.iconst 2, 1), some (.invokevirtual 30, 3), none, none, some (.iconst 1, 1), some (.if_icmp .eq 14, 3), none, none, some (.iload 4, 2), none, some (.iload 8, 2), none, some (.ishr, 1), some (.iconst 1, 1), some (.iand, 1), some (.iconst 1, 1), some (.if_icmp .ne 7, 3), none, none, some (.iconst 1, 1), some (.goto 4, 3), none, none, some (.iconst 0, 1), some (.istore 5, 2), none, some (.iload 5, 2), none, some (.ifCond .eq 49, 3), none, none, some (.iload_n 3, 1), some (.iload 6, 2), none, some (.ishr, 1), some (.iconst 1, 1), some (.iand, 1), some (.ifCond .eq 36, 3), none, none, some (.aload_n 0, 1), some (.iload 6, 2), none, some (.iconst 1, 1), some (.invokevirtual 27, 3), none, none, some (.iconst 2, 1), some (.if_icmp .ne 25, 3), none, none, some (.aload_n 0, 1), some (.iload 8, 2), none, some (.bipush 6, 2), none, some (.invokevirtual 27, 3), none, none, some (.iconst 1, 1), some (.if_icmp .eq 13, 3), none, none, some (.iload_n 3, 1), some (.iload 8, 2), none, some (.ishr, 1), some (.iconst 1, 1), some (.iand, 1), some (.iconst 1, 1), some (.if_icmp .ne 7, 3), none, none, some (.iconst 1, 1), some (.goto 4, 3), none, none, some (.iconst 0, 1), some (.istore 5, 2), none, some (.iinc 6 1, 3), none, none, some (.goto (-219), 3), none, none, some (.iload 5, 2), none, some (.ifCond .eq 58, 3), none, none, some (.aload_n 0, 1), some (.iload_n 1, 1), some (.bipush 6, 2), none, some (.invokevirtual 27, 3), none, none, some (.iconst 1, 1), some (.if_icmp .ne 34, 3), none, none, some (.iload_n 2, 1), some (.ifCond .ne 7, 3), none, none, some (.iconst 1, 1), some (.goto 4, 3), none, none, some (.iconst 0, 1), some (.aload_n 0, 1), some (.iload_n 1, 1), some (.bipush 8, 2), none, some (.invokevirtual 27, 3), none, none, some (.iconst 1, 1), some (.if_icmp .ne 7, 3), none, none, some (.iconst 1, 1), some (.goto 4, 3), none, none, some (.iconst 0, 1), some (.if_icmp .ne 19, 3), none, none, some (.goto 12, 3), none, none, some (.iload_n 3, 1), some (.iload_n 1, 1), some (.ishr, 1), some (.iconst 1, 1), some (.iand, 1), some (.iconst 1, 1), some (.if_icmp .ne 7, 3), none, none, some (.iconst 1, 1), some (.goto 4, 3), none, none, some (.iconst 0, 1), some (.ireturn, 1)]
def tb_73 : List (Option (Instr × Nat)) := [some (.aload_n 0, 1), some (.iload_n 1, 1), some (.iconst 0, 1), some (.invokevirtual 9, 3), none, none, some (.istore_n 2, 1), some (.aload_n 0, 1), some (.iload_n 1, 1), some (.invokevirtual 15, 3), none, none, some (.istore_n 3, 1), some (.aload_n 0, 1), some (.iconst 5, 1), some (.invokevirtual 24, 3), none, none, some (.istore 4, 2), none, some (.aload_n 0, 1), some (.invokevirtual 33, 3), none, none, some (.dstore 5, 2), none, some (.iload_n 2, 1), some (.ifCond .gt 24, 3), none, none, some (.iload_n 3, 1), some (.iload_n 2, 1), some (.ifCond .ne 8, 3), none, none, some (.bipush (-5), 2), none, some (.goto 5, 3), none, none, some (.bipush (-4), 2), none, some (.if_icmp .ne 7, 3), none, none, some (.iconst 1, 1), some (.goto 4, 3), none, none, some (.iconst 0, 1), some (.ireturn, 1), some (.iload_n 3, 1), some (.bipush 100, 2), none, some (.irem, 1), some (.istore 7, 2), none, some (.iload_n 3, 1), some (.bipush 100, 2), none, some (.if_icmp .lt 14, 3), none, none, some (.iload_n 3, 1), some (.sipush 400, 3), none, none, some (.if_icmp .ge 7, 3), none, none, some (.iconst 1, 1), some (.goto 4, 3), none, none, some (.iconst 0, 1), some (.istore 8, 2), none, some (.iload 8, 2), none, some (.ifCond .eq 133, 3), none, none, some (.iload_n 3, 1), some (.sipush 200, 3), none, none, some (.if_icmp .ge 55, 3), none, none, some (.aload_n 0, 1), some (.bipush 8, 2), none, some (.invokevirtual 24, 3), none, none, some (.iload 7, 2), none, some (.ishr, 1), some (.iconst 1, 1), some (.iand, 1), some (.iconst 1, 1), some (.if_icmp .ne 111, 3), none, none, some (.aload_n 0, 1), some (.iload 7, 2), none, some (.invokevirtual 37, 3), none, none, some (.ifCond .le 102, 3), none, none, some (.aload_n 0, 1), some (.invokevirtual 33, 3), none, none, some (.dload 5, 2), none, some (.dconst 1, 1), some (.aload_n 0, 1), some (.iload 7, 2), none, some (.iconst 3, 1), some (.invokevirtual 27, 3), none, none, some (.i2d, 1), some (.ldc2_w 40, 3), none, none, some (.ddiv, 1), some (.dadd, 1), some (.dadd, 1), some (.dcmp .l, 1), some (.ifCond .ne 77, 3), none, none, some (.goto 70, 3), none, none, some (.iload_n 3, 1), some (.sipush 300, 3), none, none, some (.if_icmp .ge 40, 3), none, none, some (.aload_n 0, 1), some (.iload 7, 2), none, some (.iconst 3, 1), some (.invokevirtual 30, 3), none, none, some (.iconst 1, 1), some (.if_icmp .ne 56, 3), none, none, some (.aload_n 0, 1), some (.iload 7, 2), none, some (.invokevirtual 42, 3), none, none, some (.ifCond .le 47, 3), none, none, some (.aload_n 0, 1), some (.invokevirtual 33, 3), none, none, some (.dload 5, 2), none, some (.ldc2_w 45, 3), none, none, some (.dadd, 1), some (.dcmp .l, 1), some (.ifCond .ne 33, 3), none, none, some (.goto 26, 3), none, none, some (.aload_n 0, 1), some (.iload 7, 2), none, some (.invokevirtual 47, 3), none, none, some (.ifCond .le 21, 3), none, none, some (.aload_n 0, 1), some (.invokevirtual 33, 3), none, none, some (.dload 5, 2), none, some (.ldc2_w 50, 3), none, none, some (.dadd, 1), some (.dcmp .l, 1), some (.ifCond .ne 7, 3), none, none, some (.iconst 1, 1), some (.goto 4, 3), none, none, some (.iconst 0, 1), some (.istore 8, 2), none, some (.iload 8, 2), none, some (.ifCond .eq 31, 3), none, none, some (.aload_n 0, 1), some (.iload_n 1, 1), some (.iconst 0, 1), some (.invokevirtual 9, 3), none, none, some (.iload_n 2, 1), some (.iconst 1, 1), some (.isub, 1), some (.if_icmp .ne 19, 3), none, none, some (.aload_n 0, 1), some (.iconst 5, 1), some (.invokevirtual 24, 3), none, none, some (.iload 4, 2), none, some (.iconst 1, 1), some (.iadd, 1), some (.if_icmp .ne 7, 3), none, none, some (.iconst 1, 1), some (.goto 4, 3), none, none, some (.iconst 0, 1), some (.ireturn, 1)]
def tb_74 : List (Option (Instr × Nat)) := [some (.iconst 2, 1), some (.aload_n 1, 1), some (.iconst 0, 1), some (.invokestatic 52, 3), none, none, some (.bipush 8, 2), none, some (.irem, 1), some (.iadd, 1), some (.istore_n 2, 1), some (.iconst 1, 1), some (.istore_n 3, 1), some (.iconst 0, 1), some (.istore 4, 2), none, some (.iload 4, 2), none, some (.iload_n 2, 1), some (.if_icmp .ge 135, 3), none, none, some (.iload_n 3, 1), some (.ifCond .eq 131, 3), none, none, some (.aload_n 1, 1), some (.iconst 1, 1), some (.iload 4, 2), none, some (.iadd, 1), some (.invokestatic 52, 3), none, none, some (.istore 5, 2), none, some (.iload 4, 2), none, some (.ifCond .eq 10, 3), none, none, some (.iload 5, 2), none, some (.iconst 3, 1), some (.irem, 1), some (.ifCond .le 8, 3), none, none, some (.bipush (-5), 2), none, some (.goto 10, 3), none, none, some (.iload 5, 2), none, some (.iconst 2, 1), some (.ishr, 1), some (.iload 4, 2), none, some (.irem, 1), some (.istore 6, 2), none, some (.iload 5, 2), none, some (.bipush 6, 2), none, some (.ishr, 1), some (.iconst 4, 1), some (.irem, 1), some (.istore 7, 2), none, some (.aload_n 0, 1), some (.iload 6, 2), none, some (.iload 7, 2), none, some (.iload 7, 2), none, some (.iconst 2, 1), some (.if_icmp .ne 13, 3), none, none, some (.iload 5, 2), none, some (.bipush 8, 2), none, some (.ishr, 1), some (.iload_n 2, 1), some (.irem, 1), some (.goto 11, 3), none, none, some (.iload 5, 2), none, some (.bipush 8, 2), none, some (.ishr, 1), some (.bipush 10, 2), none, some (.irem, 1), some (.iload 5, 2), none, some (.bipush 12, 2), none, some (.ishr, 1), some (.bipush 10, 2), none, some (.irem, 1), some (.invokevirtual 56, 3), none, none, some (.iload 4, 2), none, some (.if_icmp .ne 33, 3), none, none, some (.iload 5, 2), none, some (.bipush 16, 2), none, some (.ishr, 1), some (.iconst 4, 1), some (.irem, 1), some (.ifCond .eq 19, 3), none, none, some (.aload_n 0, 1), some (.iload 4, 2), none, some (.iload 5, 2), none, some (.bipush 16, 2), none, some (.ishr, 1), some (.iconst 4, 1), some (.irem, 1), some (.invokevirtual 60, 3), none, none, some (.ifCond .ne 7, 3), none, none, some (.iconst 1, 1), some (.goto 4, 3), none, none, some (.iconst 0, 1), some (.istore_n 3, 1), some (.iinc 4 1, 3), none, none, some (.goto (-135), 3), none, none, some (.iconst 0, 1), some (.istore 4, 2), none, some (.iload 4, 2), none, some (.bipush 12, 2), none, some (.if_icmp .ge 114, 3), none, none, some (.iload_n 3, 1), some (.ifCond .eq 110, 3), none, none, some (.aload_n 1, 1), some (.bipush 11, 2), none, some (.iload 4, 2), none, some (.iadd, 1), some (.invokestatic 52, 3), none, none, some (.istore 5, 2), none, some (.iload 5, 2), none, some (.iconst 2, 1), some (.ishr, 1), some (.iload_n 2, 1), some (.irem, 1), some (.istore 6, 2), none, some (.iload 5, 2), none, some (.bipush 8, 2), none, some (.ishr, 1), some (.aload_n 0, 1), some (.iload 6, 2), none, some (.iconst 4, 1), some (.invokevirtual 27, 3), none, none, some (.iconst 1, 1), some (.iadd, 1), some (.irem, 1), some (.istore 7, 2), none, some (.iload 5, 2), none, some (.iconst 4, 1), some (.irem, 1), some (.ifCond .eq 55, 3), none, none, some (.aload_n 0, 1), some (.iload 4, 2), none, some (.iload 6, 2), none, some (.iload 7, 2), none, some (.invokevirtual 63, 3), none, none, some (.ifCond .le 46, 3), none, none, some (.aload_n 0, 1), some (.iload 4, 2), none, some (.iconst 0, 1), some (.invokevirtual 30, 3), none, none, some (.iload 6, 2), none, some (.if_icmp .ne 34, 3), none, none, some (.aload_n 0, 1), some (.iload 4, 2), none, some (.iconst 1, 1), some (.invokevirtual 30, 3), none, none, some (.iload 7, 2), none, some (.if_icmp .ne 22, 3), none, none, some (.aload_n 0, 1), some (.iload 4, 2), none, some (.iload 6, 2), none, some (.iload 7, 2), none, some (.invokevirtual 63, 3), none, none, some (.bipush (-5), 2), none, some (.if_icmp .ne 7, 3), none, none, some (.iconst 1, 1), some (.goto 4, 3), none, none, some (.iconst 0, 1), some (.istore_n 3, 1), some (.iinc 4 1, 3), none, none, some (.goto (-115), 3), none, none, some (.iload_n 3, 1), some (.ireturn, 1)]
def tb_75 : List (Option (Instr × Nat)) := [some (.iconst 0, 1), some (.istore_n 1, 1), some (.iconst 0, 1), some (.istore_n 2, 1), some (.iconst 0, 1), some (.istore_n 3, 1), some (.iconst 0, 1), some (.istore 4, 2), none, some (.iconst 1, 1), some (.istore 5, 2), none, some (.iconst 0, 1), some (.istore 6, 2), none, some (.iload 6, 2), none, some (.aload_n 0, 1), some (.iconst 0, 1), some (.invokevirtual 24, 3), none, none, some (.if_icmp .ge 188, 3), none, none, some (.iload 5, 2), none, some (.ifCond .eq 183, 3), none, none, some (.iload_n 1, 1), some (.aload_n 0, 1), some (.iload 6, 2), none, some (.bipush 6, 2), none, some (.invokevirtual 27, 3), none, none, some (.iadd, 1), some (.istore_n 1, 1), some (.iload_n 2, 1), some (.aload_n 0, 1), some (.iload 6, 2), none, some (.bipush 7, 2), none, some (.invokevirtual 27, 3), none, none, some (.iadd, 1), some (.istore_n 2, 1), some (.iload_n 3, 1), some (.aload_n 0, 1), some (.iload 6, 2), none, some (.bipush 9, 2), none, some (.invokevirtual 27, 3), none, none, some (.iadd, 1), some (.istore_n 3, 1), some (.aload_n 0, 1), some (.iload 6, 2), none, some (.iconst 0, 1), some (.invokevirtual 27, 3), none, none, some (.istore 7, 2), none, some (.aload_n 0, 1), some (.iload 6, 2), none, some (.bipush 8, 2), none, some (.invokevirtual 27, 3), none, none, some (.iload 7, 2), none, some (.bipush (-5), 2), none, some (.if_icmp .ne 7, 3), none, none, some (.iconst 1, 1), some (.goto 20, 3), none, none, some (.aload_n 0, 1), some (.iload 7, 2), none, some (.bipush 6, 2), none, some (.invokevirtual 27, 3), none, none, some (.aload_n 0, 1), some (.iload 7, 2), none, some (.bipush 8, 2), none, some (.invokevirtual 27, 3), none, none, some (.imul, 1), some (.if_icmp .ne 93, 3), none, none, some (.aload_n 0, 1), some (.iload 6, 2), none, some (.bipush 10, 2), none, some (.invokevirtual 27, 3), none, none, some (.iload 7, 2), none, some (.bipush (-5), 2), none, some (.if_icmp .ne 7, 3), none, none, some (.iconst 0, 1), some (.goto 13, 3), none, none, some (.iconst 1, 1), some (.aload_n 0, 1), some (.iload 7, 2), none, some (.bipush 10, 2), none, some (.invokevirtual 27, 3), none, none, some (.iadd, 1), some (.if_icmp .ne 61, 3), none, none, some (.aload_n 0, 1), some (.iload 6, 2), none, some (.iconst 5, 1), some (.invokevirtual 27, 3), none, none, some (.aload_n 0, 1), some (.iload 6, 2), none, some (.iconst 4, 1), some (.invokevirtual 27, 3), none, none, some (.if_icmp .gt 44, 3), none, none, some (.aload_n 0, 1), some (.bipush 8, 2), none, some (.invokevirtual 24, 3), none, none, some (.iload 6, 2), none, some (.ishr, 1), some (.iconst 1, 1), some (.iand, 1), some (.ifCond .eq 26, 3), none, none, some (.aload_n 0, 1), some (.iload 6, 2), none, some (.bipush 6, 2), none, some (.invokevirtual 27, 3), none, none, some (.ifCond .ne 19, 3), none, none, some (.aload_n 0, 1), some (.iload 6, 2), none, some (.bipush 8, 2), none, some (.invokevirtual 27, 3), none, none, some (.iconst 1, 1), some (.if_icmp .ne 7, 3), none, none, some (.iconst 1, 1), some (.goto 4, 3), none, none, some (.iconst 0, 1), some (.istore 5, 2), none, some (.iinc 6 1, 3), none, none, some (.goto (-192), 3), none, none, some (.iconst 0, 1), some (.istore 6, 2), none, some (.iload 6, 2), none, some (.bipush 12, 2), none, some (.if_icmp .ge 42, 3), none, none, some (.iload_n 3, 1), some (.aload_n 0, 1), some (.iload 6, 2), none, some (.iconst 0, 1), some (.invokevirtual 30, 3), none, none, some (.ifCond .lt 7, 3), none, none, some (.iconst 1, 1), some (.goto 4, 3), none, none, some (.iconst 0, 1), some (.isub, 1), some (.istore_n 3, 1), some (.iload 4, 2), none, some (.aload_n 0, 1), some (.iload 6, 2), none, some (.iconst 2, 1), some (.invokevirtual 30, 3), none, none, some (.iload 6, 2), none, some (.ishl, 1), some (.ior, 1), some (.istore 4, 2), none, some (.iinc 6 1, 3), none, none, some (.goto (-43), 3), none, none, some (.iload 5, 2), none, some (.ifCond .eq 39, 3), none, none, some (.iload_n 1, 1), some (.aload_n 0, 1), some (.iconst 2, 1), some (.invokevirtual 24, 3), none, none, some (.if_icmp .ne 30, 3), none, none, some (.iload_n 2, 1), some (.aload_n 0, 1), some (.iconst 4, 1), some (.invokevirtual 24, 3), none, none, some (.if_icmp .ne 21, 3), none, none, some (.iload_n 3, 1), some (.ifCond .ne 17, 3), none, none, some (.iload 4, 2), none, some (.aload_n 0, 1), some (.iconst 3, 1), some (.invokevirtual 24, 3), none, none, some (.if_icmp .ne 7, 3), none, none, some (.iconst 1, 1), some (.goto 4, 3), none, none, some (.iconst 0, 1), some (.ireturn, 1)]
def tb_76 : List (Option (Instr × Nat)) := [some (.iload_n 1, 1), some (.iconst 3, 1), some (.ishr, 1), some (.aload_n 0, 1), some (.iconst 0, 1), some (.invokevirtual 24, 3), none, none, some (.irem, 1), some (.istore_n 2, 1), some (.aload_n 0, 1), some (.iconst 2, 1), some (.invokevirtual 24, 3), none, none, some (.istore_n 3, 1), some (.aload_n 0, 1), some (.iload_n 2, 1), some (.bipush 8, 2), none, some (.invokevirtual 27, 3), none, none, some (.iconst 1, 1), some (.if_icmp .ne 7, 3), none, none, some (.iconst 1, 1), some (.goto 4, 3), none, none, some (.iconst 0, 1), some (.istore 4, 2), none, some (.aload_n 0, 1), some (.iload_n 2, 1), some (.bipush 6, 2), none, some (.invokevirtual 27, 3), none, none, some (.iconst 1, 1), some (.if_icmp .ne 7, 3), none, none, some (.iconst 1, 1), some (.goto 4, 3), none, none, some (.iconst 0, 1), some (.istore 5, 2), none, some (.iload_n 1, 1), some (.iconst 3, 1), some (.irem, 1), some (.ifCond .ne 44, 3), none, none, some (.aload_n 0, 1), some (.iload_n 2, 1), some (.invokevirtual 67, 3), none, none, some (.istore 6, 2), none, some (.iload 6, 2), none, some (.iload 5, 2), none, some (.ifCond .ne 8, 3), none, none, some (.bipush (-5), 2), none, some (.goto 16, 3), none, none, some (.iload 4, 2), none, some (.ifCond .ne 8, 3), none, none, some (.bipush (-4), 2), none, some (.goto 6, 3), none, none, some (.iload_n 3, 1), some (.iconst 1, 1), some (.isub, 1), some (.if_icmp .ne 7, 3), none, none, some (.iconst 1, 1), some (.goto 4, 3), none, none, some (.iconst 0, 1), some (.ireturn, 1), some (.iload_n 1, 1), some (.iconst 3, 1), some (.irem, 1), some (.iconst 1, 1), some (.if_icmp .ne 88, 3), none, none, some (.aload_n 0, 1), some (.iconst 4, 1), some (.invokevirtual 24, 3), none, none, some (.istore 6, 2), none, some (.aload_n 0, 1), some (.iload_n 2, 1), some (.bipush 7, 2), none, some (.invokevirtual 27, 3), none, none, some (.iconst 1, 1), some (.if_icmp .ne 7, 3), none, none, some (.iconst 1, 1), some (.goto 4, 3), none, none, some (.iconst 0, 1), some (.istore 7, 2), none, some (.aload_n 0, 1), some (.iload_n 2, 1), some (.invokevirtual 70, 3), none, none, some (.istore 8, 2), none, some (.iload 8, 2), none, some (.iload 7, 2), none, some (.ifCond .ne 8, 3), none, none, some (.bipush (-5), 2), none, some (.goto 35, 3), none, none, some (.iload 5, 2), none, some (.ifCond .ne 21, 3), none, none, some (.iload 4, 2), none, some (.ifCond .eq 16, 3), none, none, some (.aload_n 0, 1), some (.iconst 3, 1), some (.invokevirtual 24, 3), none, none, some (.bipush 11, 2), none, some (.ishr, 1), some (.iconst 1, 1), some (.iand, 1), some (.ifCond .ne 8, 3), none, none, some (.bipush (-4), 2), none, some (.goto 7, 3), none, none, some (.iload 6, 2), none, some (.iconst 1, 1), some (.isub, 1), some (.if_icmp .ne 7, 3), none, none, some (.iconst 1, 1), some (.goto 4, 3), none, none, some (.iconst 0, 1), some (.ireturn, 1), some (.aload_n 0, 1), some (.bipush 8, 2), none, some (.invokevirtual 24, 3), none, none, some (.iload_n 2, 1), some (.ishr, 1), some (.iconst 1, 1), some (.iand, 1), some (.iconst 1, 1), some (.if_icmp .ne 7, 3), none, none, some (.iconst 1, 1), some (.goto 4, 3), none, none, some (.iconst 0, 1), some (.istore 6, 2), none, some (.aload_n 0, 1), some (.iload_n 2, 1), some (.invokevirtual 37, 3), none, none, some (.istore 7, 2), none, some (.iload 7, 2), none, some (.iload 5, 2), none, some (.ifCond .eq 8, 3), none, none, some (.bipush (-5), 2), none, some (.goto 16, 3), none, none, some (.iload 6, 2), none, some (.ifCond .eq 9, 3), none, none, some (.iload_n 3, 1), some (.iconst 1, 1), some (.iadd, 1), some (.goto 5, 3), none, none, some (.bipush (-4), 2), none, some (.if_icmp .ne 33, 3), none, none, some (.iload 7, 2), none, some (.ifCond .lt 24, 3), none, none, some (.aload_n 0, 1), some (.iload_n 2, 1), some (.iconst 1, 1), some (.invokevirtual 27, 3), none, none, some (.iconst 3, 1), some (.if_icmp .ne 14, 3), none, none, some (.aload_n 0, 1), some (.iload_n 2, 1), some (.bipush 7, 2), none, some (.invokevirtual 27, 3), none, none, some (.iconst 1, 1), some (.if_icmp .ne 7, 3), none, none, some (.iconst 1, 1), some (.goto 4, 3), none, none, some (.iconst 0, 1), some (.ireturn, 1)]
def tb_77 : List (Option (Instr × Nat)) := [some (.new 10, 3), none, none, some (.dup, 1), some (.invokespecial 73, 3), none, none, some (.astore_n 1, 1), some (.aload_n 1, 1), some (.invokevirtual 74, 3), none, none, some (.bipush (-4), 2), none, some (.if_icmp .ne 52, 3), none, none, some (.aload_n 1, 1), some (.invokevirtual 78, 3), none, none, some (.bipush (-5), 2), none, some (.if_icmp .ne 43, 3), none, none, some (.aload_n 1, 1), some (.aload_n 0, 1), some (.invokestatic 81, 3), none, none, some (.ifCond .eq 35, 3), none, none, some (.aload_n 1, 1), some (.invokevirtual 74, 3), none, none, some (.aload_n 1, 1), some (.iconst 0, 1), some (.invokevirtual 24, 3), none, none, some (.if_icmp .ne 23, 3), none, none, some (.aload_n 1, 1), some (.invokevirtual 33, 3), none, none, some (.dconst 0, 1), some (.dcmp .l, 1), some (.ifCond .ne 14, 3), none, none, some (.aload_n 1, 1), some (.invokevirtual 85, 3), none, none, some (.ifCond .ne 7, 3), none, none, some (.iconst 1, 1), some (.goto 4, 3), none, none, some (.iconst 0, 1), some (.istore_n 2, 1), some (.aload_n 1, 1), some (.bipush 7, 2), none, some (.invokevirtual 24, 3), none, none, some (.istore_n 3, 1), some (.iconst 0, 1), some (.istore 4, 2), none, some (.iload 4, 2), none, some (.aload_n 1, 1), some (.iconst 0, 1), some (.invokevirtual 24, 3), none, none, some (.if_icmp .ge 54, 3), none, none, some (.iload_n 2, 1), some (.ifCond .eq 50, 3), none, none, some (.iload_n 3, 1), some (.iload 4, 2), none, some (.ishr, 1), some (.iconst 1, 1), some (.iand, 1), some (.aload_n 1, 1), some (.iload 4, 2), none, some (.iconst 0, 1), some (.invokevirtual 9, 3), none, none, some (.bipush (-4), 2), none, some (.if_icmp .ne 7, 3), none, none, some (.iconst 1, 1), some (.goto 4, 3), none, none, some (.iconst 0, 1), some (.if_icmp .ne 16, 3), none, none, some (.aload_n 1, 1), some (.iload 4, 2), none, some (.invokestatic 88, 3), none, none, some (.ifCond .eq 7, 3), none, none, some (.iconst 1, 1), some (.goto 4, 3), none, none, some (.iconst 0, 1), some (.istore_n 2, 1), some (.iinc 4 1, 3), none, none, some (.goto (-58), 3), none, none, some (.iload_n 2, 1), some (.ifCond .eq 25, 3), none, none, some (.aload_n 1, 1), some (.bipush 6, 2), none, some (.invokevirtual 24, 3), none, none, some (.iload_n 3, 1), some (.ifCond .ne 7, 3), none, none, some (.iconst 1, 1), some (.goto 4, 3), none, none, some (.iconst 0, 1), some (.if_icmp .ne 7, 3), none, none, some (.iconst 1, 1), some (.goto 4, 3), none, none, some (.iconst 0, 1), some (.istore_n 2, 1), some (.iconst 0, 1), some (.istore 4, 2), none, some (.iload 4, 2), none, some (.bipush 24, 2), none, some (.if_icmp .ge 136, 3), none, none, some (.iload_n 2, 1), some (.ifCond .eq 132, 3), none, none, some (.aload_n 0, 1), some (.bipush 23, 2), none, some (.iload 4, 2), none, some (.iadd, 1), some (.invokestatic 52, 3), none, none, some (.istore 5, 2), none, some (.iload 5, 2), none, some (.bipush 12, 2), none, some (.ishr, 1), some (.iconst 3, 1), some (.irem, 1), some (.ifCond .le 21, 3), none, none, some (.aload_n 1, 1), some (.iload 5, 2), none, some (.bipush 16, 2), none, some (.ishr, 1), some (.aload_n 1, 1), some (.iconst 0, 1), some (.invokevirtual 24, 3), none, none, some (.irem, 1), some (.invokestatic 92, 3), none, none, some (.goto 9, 3), none, none, some (.aload_n 1, 1), some (.iload 5, 2), none, some (.invokestatic 95, 3), none, none, some (.istore_n 2, 1), some (.iload_n 2, 1), some (.ifCond .eq 74, 3), none, none, some (.aload_n 1, 1), some (.iload 5, 2), none, some (.bipush 20, 2), none, some (.ishr, 1), some (.aload_n 1, 1), some (.iconst 0, 1), some (.invokevirtual 24, 3), none, none, some (.irem, 1), some (.invokestatic 88, 3), none, none, some (.ifCond .eq 56, 3), none, none, some (.aload_n 1, 1), some (.invokestatic 98, 3), none, none, some (.ifCond .eq 49, 3), none, none, some (.aload_n 1, 1), some (.bipush (-5), 2), none, some (.iconst 0, 1), some (.iconst 0, 1), some (.iconst 0, 1), some (.invokevirtual 56, 3), none, none, some (.aload_n 1, 1), some (.iconst 0, 1), some (.invokevirtual 24, 3), none, none, some (.bipush 16, 2), none, some (.if_icmp .ne 8, 3), none, none, some (.bipush (-3), 2), none, some (.goto 5, 3), none, none, some (.bipush (-4), 2), none, some (.if_icmp .ne 20, 3), none, none, some (.aload_n 1, 1), some (.iconst 0, 1), some (.bipush (-5), 2), none, some (.iconst 0, 1), some (.invokevirtual 63, 3), none, none, some (.bipush (-4), 2), none, some (.if_icmp .ne 7, 3), none, none, some (.iconst 1, 1), some (.goto 4, 3), none, none, some (.iconst 0, 1), some (.istore_n 2, 1), some (.iinc 4 1, 3), none, none, some (.goto (-137), 3), none, none, some (.aload_n 1, 1), some (.iconst 5, 1), some (.invokevirtual 24, 3), none, none, some (.istore 4, 2), none, some (.iload_n 2, 1), some (.ifCond .eq 77, 3), none, none, some (.aload_n 1, 1), some (.bipush 7, 2), none, some (.invokevirtual 24, 3), none, none, some (.iload_n 3, 1), some (.if_icmp .ne 67, 3), none, none, some (.aload_n 1, 1), some (.invokevirtual 102, 3), none, none, some (.iload 4, 2), none, some (.if_icmp .ne 58, 3), none, none, some (.aload_n 1, 1), some (.invokevirtual 33, 3), none, none, some (.ldc2_w 105, 3), none, none, some (.dcmp .l, 1), some (.ifCond .ne 47, 3), none, none, some (.aload_n 1, 1), some (.iconst 2, 1), some (.invokevirtual 24, 3), none, none, some (.ifCond .ne 39, 3), none, none, some (.aload_n 1, 1), some (.iconst 3, 1), some (.invokevirtual 24, 3), none, none, some (.ifCond .ne 31, 3), none, none, some (.aload_n 1, 1), some (.invokevirtual 78, 3), none, none, some (.ifCond .lt 24, 3), none, none, some (.aload_n 1, 1), some (.iconst 5, 1), some (.invokevirtual 24, 3), none, none, some (.iload 4, 2), none, some (.if_icmp .ne 14, 3), none, none, some (.aload_n 1, 1), some (.invokestatic 98, 3), none, none, some (.ifCond .eq 7, 3), none, none, some (.iconst 1, 1), some (.goto 4, 3), none, none, some (.iconst 0, 1), some (.ireturn, 1)]
def TBS_0 : List (List (Option (Instr × Nat))) := [tb_0, tb_1, tb_2, tb_3, tb_4, tb_5, tb_6, tb_7, tb_8, tb_9, tb_10, tb_11, tb_12]
def TBS_1 : List (List (Option (Instr × Nat))) := [tb_13, tb_14, tb_15, tb_16, tb_17, tb_18, tb_19, tb_20, tb_21, tb_22, tb_23, tb_24, tb_25]
def TBS_2 : List (List (Option (Instr × Nat))) := [tb_26, tb_27, tb_28, tb_29, tb_30, tb_31, tb_32, tb_33, tb_34, tb_35, tb_36, tb_37, tb_38]
def TBS_3 : List (List (Option (Instr × Nat))) := [tb_39, tb_40, tb_41, tb_42, tb_43, tb_44, tb_45, tb_46, tb_47, tb_48, tb_49, tb_50, tb_51]
def TBS_4 : List (List (Option (Instr × Nat))) := [tb_52, tb_53, tb_54, tb_55, tb_56, tb_57, tb_58, tb_59, tb_60, tb_61, tb_62, tb_63, tb_64]
def TBS_5 : List (List (Option (Instr × Nat))) := [tb_65, tb_66, tb_67, tb_68, tb_69, tb_70, tb_71, tb_72, tb_73, tb_74, tb_75, tb_76, tb_77]
def TBS : List (List (Option (Instr × Nat))) := TBS_0 ++ (TBS_1 ++ (TBS_2 ++ (TBS_3 ++ (TBS_4 ++ (TBS_5)))))
/-- the instruction of a method at a program counter, and its length -/
def TB (y pc : Nat) : Option (Instr × Nat) := match TBS[y]? with
  | some tb => (match tb[pc]? with
    | some r => r
    | none => none)
  | none => none
set_option maxRecDepth 100000 in
theorem tk_0 : tbOk tb_0 cX0_init = true := by decide +kernel
set_option maxRecDepth 100000 in
theorem tk_1 : tbOk tb_1 cX1_init = true := by decide +kernel
set_option maxRecDepth 100000 in
theorem tk_2 : tbOk tb_2 cX1_make = true := by decide +kernel
set_option maxRecDepth 100000 in
theorem tk_3 : tbOk tb_3 cX1_countSteps = true := by decide +kernel
set_option maxRecDepth 100000 in
theorem tk_4 : tbOk tb_4 cX1_countLiftings = true := by decide +kernel
set_option maxRecDepth 100000 in
theorem tk_5 : tbOk tb_5 cX1_firstStep = true := by decide +kernel
set_option maxRecDepth 100000 in
theorem tk_6 : tbOk tb_6 cX1_isLiftingIn = true := by decide +kernel
set_option maxRecDepth 100000 in
theorem tk_7 : tbOk tb_7 cX1_addNeedsOfAll = true := by decide +kernel
set_option maxRecDepth 100000 in
theorem tk_8 : tbOk tb_8 cX1_addWayInto = true := by decide +kernel
set_option maxRecDepth 100000 in
theorem tk_9 : tbOk tb_9 cX1_addNeedsOfOpening = true := by decide +kernel
set_option maxRecDepth 100000 in
theorem tk_10 : tbOk tb_10 cX1_addNeedsOfTaking = true := by decide +kernel
set_option maxRecDepth 100000 in
theorem tk_11 : tbOk tb_11 cX1_addOpening = true := by decide +kernel
set_option maxRecDepth 100000 in
theorem tk_12 : tbOk tb_12 cX1_addTaking = true := by decide +kernel
set_option maxRecDepth 100000 in
theorem tk_13 : tbOk tb_13 cX2_init = true := by decide +kernel
set_option maxRecDepth 100000 in
theorem tk_14_0 : tbOkR tb_14 cX2_copyFrom 0 70 = true := by decide +kernel
set_option maxRecDepth 100000 in
theorem tk_14_1 : tbOkR tb_14 cX2_copyFrom 70 70 = true := by decide +kernel
set_option maxRecDepth 100000 in
theorem tk_14_2 : tbOkR tb_14 cX2_copyFrom 140 37 = true := by decide +kernel
set_option maxRecDepth 100000 in
theorem tk_14 : tbOk tb_14 cX2_copyFrom = true := tbOk_of (n := 177) rfl (fun pc h => if h0 : pc < 70 then tbAt tk_14_0 pc (by omega) (by omega) else if h1 : pc < 140 then tbAt tk_14_1 pc (by omega) (by omega) else tbAt tk_14_2 pc (by omega) (by omega))
set_option maxRecDepth 100000 in
theorem tk_15 : tbOk tb_15 cX2_addDrawer = true := by decide +kernel
set_option maxRecDepth 100000 in
theorem tk_16 : tbOk tb_16 cX2_changeBottoms = true := by decide +kernel
set_option maxRecDepth 100000 in
theorem tk_17 : tbOk tb_17 cX2_putBack = true := by decide +kernel
set_option maxRecDepth 100000 in
theorem tk_18 : tbOk tb_18 cX2_isThere = true := by decide +kernel
set_option maxRecDepth 100000 in
theorem tk_19 : tbOk tb_19 cX2_isOpen = true := by decide +kernel
set_option maxRecDepth 100000 in
theorem tk_20 : tbOk tb_20 cX2_isInHand = true := by decide +kernel
set_option maxRecDepth 100000 in
theorem tk_21 : tbOk tb_21 cX2_isReached = true := by decide +kernel
set_option maxRecDepth 100000 in
theorem tk_22 : tbOk tb_22 cX2_canOpen = true := by decide +kernel
set_option maxRecDepth 100000 in
theorem tk_23 : tbOk tb_23 cX2_isLetByHold = true := by decide +kernel
set_option maxRecDepth 100000 in
theorem tk_24 : tbOk tb_24 cX2_hasBottomLeft = true := by decide +kernel
set_option maxRecDepth 100000 in
theorem tk_25 : tbOk tb_25 cX2_canLift = true := by decide +kernel
set_option maxRecDepth 100000 in
theorem tk_26 : tbOk tb_26 cX2_canTake = true := by decide +kernel
set_option maxRecDepth 100000 in
theorem tk_27 : tbOk tb_27 cX2_canSeal = true := by decide +kernel
set_option maxRecDepth 100000 in
theorem tk_28 : tbOk tb_28 cX2_setOpen = true := by decide +kernel
set_option maxRecDepth 100000 in
theorem tk_29 : tbOk tb_29 cX2_addStep = true := by decide +kernel
set_option maxRecDepth 100000 in
theorem tk_30 : tbOk tb_30 cX2_makeAllSteps = true := by decide +kernel
set_option maxRecDepth 100000 in
theorem tk_31 : tbOk tb_31 cX2_makeSteps = true := by decide +kernel
set_option maxRecDepth 100000 in
theorem tk_32 : tbOk tb_32 cX2_hasAllHolders = true := by decide +kernel
set_option maxRecDepth 100000 in
theorem tk_33 : tbOk tb_33 cX2_openableNow = true := by decide +kernel
set_option maxRecDepth 100000 in
theorem tk_34 : tbOk tb_34 cX2_countWholeSeals = true := by decide +kernel
set_option maxRecDepth 100000 in
theorem tk_35 : tbOk tb_35 cX2_countThingsInDrawers = true := by decide +kernel
set_option maxRecDepth 100000 in
theorem tk_36 : tbOk tb_36 cX2_countThingsIn = true := by decide +kernel
set_option maxRecDepth 100000 in
theorem tk_37 : tbOk tb_37 cX2_countOuters = true := by decide +kernel
set_option maxRecDepth 100000 in
theorem tk_38 : tbOk tb_38 cX3_init = true := by decide +kernel
set_option maxRecDepth 100000 in
theorem tk_39 : tbOk tb_39 cX3_build = true := by decide +kernel
set_option maxRecDepth 100000 in
theorem tk_40 : tbOk tb_40 cX3_setBottoms = true := by decide +kernel
set_option maxRecDepth 100000 in
theorem tk_41 : tbOk tb_41 cX3_lay = true := by decide +kernel
set_option maxRecDepth 100000 in
theorem tk_42 : tbOk tb_42 cX3_begin = true := by decide +kernel
set_option maxRecDepth 100000 in
theorem tk_43 : tbOk tb_43 cX3_giveUp = true := by decide +kernel
set_option maxRecDepth 100000 in
theorem tk_44 : tbOk tb_44 cX3_open = true := by decide +kernel
set_option maxRecDepth 100000 in
theorem tk_45 : tbOk tb_45 cX3_close = true := by decide +kernel
set_option maxRecDepth 100000 in
theorem tk_46 : tbOk tb_46 cX3_lift = true := by decide +kernel
set_option maxRecDepth 100000 in
theorem tk_47 : tbOk tb_47 cX3_take = true := by decide +kernel
set_option maxRecDepth 100000 in
theorem tk_48 : tbOk tb_48 cX3_seal = true := by decide +kernel
set_option maxRecDepth 100000 in
theorem tk_49 : tbOk tb_49 cX3_undo = true := by decide +kernel
set_option maxRecDepth 100000 in
theorem tk_50_0 : tbOkR tb_50 cX3_drawer 0 70 = true := by decide +kernel
set_option maxRecDepth 100000 in
theorem tk_50_1 : tbOkR tb_50 cX3_drawer 70 70 = true := by decide +kernel
set_option maxRecDepth 100000 in
theorem tk_50_2 : tbOkR tb_50 cX3_drawer 140 52 = true := by decide +kernel
set_option maxRecDepth 100000 in
theorem tk_50 : tbOk tb_50 cX3_drawer = true := tbOk_of (n := 192) rfl (fun pc h => if h0 : pc < 70 then tbAt tk_50_0 pc (by omega) (by omega) else if h1 : pc < 140 then tbAt tk_50_1 pc (by omega) (by omega) else tbAt tk_50_2 pc (by omega) (by omega))
set_option maxRecDepth 100000 in
theorem tk_51 : tbOk tb_51 cX3_thing = true := by decide +kernel
set_option maxRecDepth 100000 in
theorem tk_52 : tbOk tb_52 cX3_needs = true := by decide +kernel
set_option maxRecDepth 100000 in
theorem tk_53 : tbOk tb_53 cX3_hint = true := by decide +kernel
set_option maxRecDepth 100000 in
theorem tk_54 : tbOk tb_54 cX3_minutes = true := by decide +kernel
set_option maxRecDepth 100000 in
theorem tk_55 : tbOk tb_55 cX3_minutesBits = true := by decide +kernel
set_option maxRecDepth 100000 in
theorem tk_56_0 : tbOkR tb_56 cX3_count 0 70 = true := by decide +kernel
set_option maxRecDepth 100000 in
theorem tk_56_1 : tbOkR tb_56 cX3_count 70 70 = true := by decide +kernel
set_option maxRecDepth 100000 in
theorem tk_56_2 : tbOkR tb_56 cX3_count 140 36 = true := by decide +kernel
set_option maxRecDepth 100000 in
theorem tk_56 : tbOk tb_56 cX3_count = true := tbOk_of (n := 176) rfl (fun pc h => if h0 : pc < 70 then tbAt tk_56_0 pc (by omega) (by omega) else if h1 : pc < 140 then tbAt tk_56_1 pc (by omega) (by omega) else tbAt tk_56_2 pc (by omega) (by omega))
set_option maxRecDepth 100000 in
theorem tk_57 : tbOk tb_57 cX3_isHold = true := by decide +kernel
set_option maxRecDepth 100000 in
theorem tk_58 : tbOk tb_58 cX3_isThing = true := by decide +kernel
set_option maxRecDepth 100000 in
theorem tk_59 : tbOk tb_59 cX3_oneIf = true := by decide +kernel
set_option maxRecDepth 100000 in
theorem tk_60 : tbOk tb_60 cX3_bit = true := by decide +kernel
set_option maxRecDepth 100000 in
theorem tk_61 : tbOk tb_61 cX3_isIn = true := by decide +kernel
set_option maxRecDepth 100000 in
theorem tk_62 : tbOk tb_62 cX3_bitsOf = true := by decide +kernel
set_option maxRecDepth 100000 in
theorem tk_63 : tbOk tb_63 cX3_recordState = true := by decide +kernel
set_option maxRecDepth 100000 in
theorem tk_64 : tbOk tb_64 cX3_dropOldest = true := by decide +kernel
set_option maxRecDepth 100000 in
theorem tk_65 : tbOk tb_65 cX3_copyState = true := by decide +kernel
set_option maxRecDepth 100000 in
theorem tk_66 : tbOk tb_66 cX3_canComeTo = true := by decide +kernel
set_option maxRecDepth 100000 in
theorem tk_67 : tbOk tb_67 cX3_neverOpened = true := by decide +kernel
set_option maxRecDepth 100000 in
theorem tk_68 : tbOk tb_68 cJ6_bitCount_0f7a4 = true := by decide +kernel
set_option maxRecDepth 100000 in
theorem tk_69 : tbOk tb_69 cJ9_max_7cf53 = true := by decide +kernel
set_option maxRecDepth 100000 in
theorem tk_70 : tbOk tb_70 cL_cell = true := by decide +kernel
set_option maxRecDepth 100000 in
theorem tk_71 : tbOk tb_71 cL_bits = true := by decide +kernel
set_option maxRecDepth 100000 in
theorem tk_72_0 : tbOkR tb_72 cL_isNeeded 0 70 = true := by decide +kernel
set_option maxRecDepth 100000 in
theorem tk_72_1 : tbOkR tb_72 cL_isNeeded 70 70 = true := by decide +kernel
set_option maxRecDepth 100000 in
theorem tk_72_2 : tbOkR tb_72 cL_isNeeded 140 70 = true := by decide +kernel
set_option maxRecDepth 100000 in
theorem tk_72_3 : tbOkR tb_72 cL_isNeeded 210 70 = true := by decide +kernel
set_option maxRecDepth 100000 in
theorem tk_72_4 : tbOkR tb_72 cL_isNeeded 280 70 = true := by decide +kernel
set_option maxRecDepth 100000 in
theorem tk_72_5 : tbOkR tb_72 cL_isNeeded 350 70 = true := by decide +kernel
set_option maxRecDepth 100000 in
theorem tk_72_6 : tbOkR tb_72 cL_isNeeded 420 24 = true := by decide +kernel
set_option maxRecDepth 100000 in
theorem tk_72 : tbOk tb_72 cL_isNeeded = true := tbOk_of (n := 444) rfl (fun pc h => if h0 : pc < 70 then tbAt tk_72_0 pc (by omega) (by omega) else if h1 : pc < 140 then tbAt tk_72_1 pc (by omega) (by omega) else if h2 : pc < 210 then tbAt tk_72_2 pc (by omega) (by omega) else if h3 : pc < 280 then tbAt tk_72_3 pc (by omega) (by omega) else if h4 : pc < 350 then tbAt tk_72_4 pc (by omega) (by omega) else if h5 : pc < 420 then tbAt tk_72_5 pc (by omega) (by omega) else tbAt tk_72_6 pc (by omega) (by omega))
set_option maxRecDepth 100000 in
theorem tk_73_0 : tbOkR tb_73 cL_goes 0 70 = true := by decide +kernel
set_option maxRecDepth 100000 in
theorem tk_73_1 : tbOkR tb_73 cL_goes 70 70 = true := by decide +kernel
set_option maxRecDepth 100000 in
theorem tk_73_2 : tbOkR tb_73 cL_goes 140 70 = true := by decide +kernel
set_option maxRecDepth 100000 in
theorem tk_73_3 : tbOkR tb_73 cL_goes 210 40 = true := by decide +kernel
set_option maxRecDepth 100000 in
theorem tk_73 : tbOk tb_73 cL_goes = true := tbOk_of (n := 250) rfl (fun pc h => if h0 : pc < 70 then tbAt tk_73_0 pc (by omega) (by omega) else if h1 : pc < 140 then tbAt tk_73_1 pc (by omega) (by omega) else if h2 : pc < 210 then tbAt tk_73_2 pc (by omega) (by omega) else tbAt tk_73_3 pc (by omega) (by omega))
set_option maxRecDepth 100000 in
theorem tk_74_0 : tbOkR tb_74 cL_builds 0 70 = true := by decide +kernel
set_option maxRecDepth 100000 in
theorem tk_74_1 : tbOkR tb_74 cL_builds 70 70 = true := by decide +kernel
set_option maxRecDepth 100000 in
theorem tk_74_2 : tbOkR tb_74 cL_builds 140 70 = true := by decide +kernel
set_option maxRecDepth 100000 in
theorem tk_74_3 : tbOkR tb_74 cL_builds 210 67 = true := by decide +kernel
set_option maxRecDepth 100000 in
theorem tk_74 : tbOk tb_74 cL_builds = true := tbOk_of (n := 277) rfl (fun pc h => if h0 : pc < 70 then tbAt tk_74_0 pc (by omega) (by omega) else if h1 : pc < 140 then tbAt tk_74_1 pc (by omega) (by omega) else if h2 : pc < 210 then tbAt tk_74_2 pc (by omega) (by omega) else tbAt tk_74_3 pc (by omega) (by omega))
set_option maxRecDepth 100000 in
theorem tk_75_0 : tbOkR tb_75 cL_isAll 0 70 = true := by decide +kernel
set_option maxRecDepth 100000 in
theorem tk_75_1 : tbOkR tb_75 cL_isAll 70 70 = true := by decide +kernel
set_option maxRecDepth 100000 in
theorem tk_75_2 : tbOkR tb_75 cL_isAll 140 70 = true := by decide +kernel
set_option maxRecDepth 100000 in
theorem tk_75_3 : tbOkR tb_75 cL_isAll 210 70 = true := by decide +kernel
set_option maxRecDepth 100000 in
theorem tk_75_4 : tbOkR tb_75 cL_isAll 280 22 = true := by decide +kernel
set_option maxRecDepth 100000 in
theorem tk_75 : tbOk tb_75 cL_isAll = true := tbOk_of (n := 302) rfl (fun pc h => if h0 : pc < 70 then tbAt tk_75_0 pc (by omega) (by omega) else if h1 : pc < 140 then tbAt tk_75_1 pc (by omega) (by omega) else if h2 : pc < 210 then tbAt tk_75_2 pc (by omega) (by omega) else if h3 : pc < 280 then tbAt tk_75_3 pc (by omega) (by omega) else tbAt tk_75_4 pc (by omega) (by omega))
set_option maxRecDepth 100000 in
theorem tk_76_0 : tbOkR tb_76 cL_acts 0 70 = true := by decide +kernel
set_option maxRecDepth 100000 in
theorem tk_76_1 : tbOkR tb_76 cL_acts 70 70 = true := by decide +kernel
set_option maxRecDepth 100000 in
theorem tk_76_2 : tbOkR tb_76 cL_acts 140 70 = true := by decide +kernel
set_option maxRecDepth 100000 in
theorem tk_76_3 : tbOkR tb_76 cL_acts 210 69 = true := by decide +kernel
set_option maxRecDepth 100000 in
theorem tk_76 : tbOk tb_76 cL_acts = true := tbOk_of (n := 279) rfl (fun pc h => if h0 : pc < 70 then tbAt tk_76_0 pc (by omega) (by omega) else if h1 : pc < 140 then tbAt tk_76_1 pc (by omega) (by omega) else if h2 : pc < 210 then tbAt tk_76_2 pc (by omega) (by omega) else tbAt tk_76_3 pc (by omega) (by omega))
set_option maxRecDepth 100000 in
theorem tk_77_0 : tbOkR tb_77 cL_law 0 70 = true := by decide +kernel
set_option maxRecDepth 100000 in
theorem tk_77_1 : tbOkR tb_77 cL_law 70 70 = true := by decide +kernel
set_option maxRecDepth 100000 in
theorem tk_77_2 : tbOkR tb_77 cL_law 140 70 = true := by decide +kernel
set_option maxRecDepth 100000 in
theorem tk_77_3 : tbOkR tb_77 cL_law 210 70 = true := by decide +kernel
set_option maxRecDepth 100000 in
theorem tk_77_4 : tbOkR tb_77 cL_law 280 70 = true := by decide +kernel
set_option maxRecDepth 100000 in
theorem tk_77_5 : tbOkR tb_77 cL_law 350 47 = true := by decide +kernel
set_option maxRecDepth 100000 in
theorem tk_77 : tbOk tb_77 cL_law = true := tbOk_of (n := 397) rfl (fun pc h => if h0 : pc < 70 then tbAt tk_77_0 pc (by omega) (by omega) else if h1 : pc < 140 then tbAt tk_77_1 pc (by omega) (by omega) else if h2 : pc < 210 then tbAt tk_77_2 pc (by omega) (by omega) else if h3 : pc < 280 then tbAt tk_77_3 pc (by omega) (by omega) else if h4 : pc < 350 then tbAt tk_77_4 pc (by omega) (by omega) else tbAt tk_77_5 pc (by omega) (by omega))
end
section
/-! THE INTERPRETER: an abstract memory, one step of a method's code as a predicate, calls as a relation -/
/-- how many cells there are; the ints, the references, the doubles by cell and place -/
abbrev Mm : Type := Nat × (Nat → Nat → Int32) × (Nat → Nat → Option Nat) × (Nat → Nat → UInt64)
def up2 {α : Type} (M : Nat → Nat → α) (c k : Nat) (x : α) : Nat → Nat → α := fun a j => if a = c ∧ j = k then x else M a j
def cp2 {α : Type} (M : Nat → Nat → α) (c0 sp c1 dp n : Nat) : Nat → Nat → α := fun a j => if a = c1 ∧ dp ≤ j ∧ j < dp + n then M c0 (sp + (j - dp)) else M a j
def rw2 {α : Type} (M : Nat → Nat → α) (c : Nat) (f : Nat → α) : Nat → Nat → α := fun a => if a = c then f else M a
theorem up2_row {α : Type} (M : Nat → Nat → α) (c k : Nat) (x : α) : up2 M c k x c = fun j => if j = k then x else M c j := by
  funext j; simp [up2]
theorem up2_ne {α : Type} (M : Nat → Nat → α) {a c : Nat} (k : Nat) (x : α) (h : a ≠ c) : up2 M c k x a = M a := by
  funext j; simp [up2, h]
theorem rw2_row {α : Type} (M : Nat → Nat → α) (c : Nat) (f : Nat → α) : rw2 M c f c = f := by simp [rw2]
theorem rw2_ne {α : Type} (M : Nat → Nat → α) {a c : Nat} (f : Nat → α) (h : a ≠ c) : rw2 M c f a = M a := by simp [rw2, h]
/-- what the cells are, in the order in which they are made: (0, class), (1, n) ints, (2, n) chars, (3, n) booleans, (4, n) doubles, (5, n) States -/
def SHS : List (Nat × Nat) := [(0, 2), (1, 16), (1, 16), (1, 16), (1, 16), (1, 16), (1, 16), (1, 12), (1, 12)]
def SHL : List (Nat × Nat) := (0, 3) :: (SHS ++ (SHS ++ (SHS ++ ([(5, 4), (0, 1), (1, 16), (0, 0), (2, 60), (1, 21), (1, 21), (1, 21), (1, 21)] ++ (SHS ++ (SHS ++ (SHS ++ SHS)))))))
def SH (c : Nat) : Nat × Nat := SHL.getD c (9, 0)
def tyOf (ci k : Nat) : FieldType := match ci with
  | 0 => tyX0 k
  | 1 => tyX1 k
  | 2 => tyX2 k
  | _ => tyX3 k
def nf (ci : Nat) : Nat := match vwCl[ci]? with
  | some r => r.2.2
  | none => 0
/-- 0 an int, 1 a boolean, 2 a reference -/
def fkd (ci k : Nat) : Nat := match tyOf ci k with
  | .int => 0
  | .boolean => 1
  | .object _ => 2
  | .array _ => 2
  | _ => 3
def fin (ci k : Nat) : Bool := match vwCl[ci]? with
  | some r => (r.2.1 k).2.2.2
  | none => false
def szc (c : Nat) : Nat := match SH c with
  | (0, ci) => nf ci
  | (_, n) => n
def SZ (n : Nat) : Nat := ((List.range n).map szc).sum
def vrf (r : Option Nat) : Value := match r with
  | none => .null
  | some c => .ref c
def fv (σ : Mm) (c ci k : Nat) : Value := match fkd ci k with
  | 2 => vrf (σ.2.2.1 c k)
  | _ => .int (σ.2.1 c k)
/-- a value of the interpreter as the machine has it: cell i at B + i, the script (written as a return address) at b -/
def vm (B b : Nat) (v : Value) : Value := match v with
  | .ref i => .ref (B + i)
  | .retAddr _ => .ref b
  | v => v
def ent (B b : Nat) (dA : Nat → ClassId) (σ : Mm) (c : Nat) : va_E := match SH c with
  | (0, ci) => .inr (ci, (List.range (nf ci)).map (fun k => vm B b (fv σ c ci k)))
  | (4, n) => .inl (dA 4, n, .inr (.inr (.inr (.inl (σ.2.2.2 c)))))
  | (5, n) => .inl (dA 5, n, .inr (.inr (.inr (.inr (fun j => (σ.2.2.1 c j).map (B + ·))))))
  | (t, n) => .inl (dA t, n, .inl (σ.2.1 c))
def wd (B b : Nat) (dA : Nat → ClassId) (σ : Mm) : va_W := (List.range σ.1).map (fun c => (B + c, ent B b dA σ c))
abbrev TYS (dA : Nat → ClassId) : List (ClassId × FieldType) := [(dA 1, .int), (dA 2, .char), (dA 5, .object RX2)]
/-- the words that do not pass a call by themselves -/
def NST : List Cond := (List.range 8).flatMap (fun own => ((LK own).filter (fun e => e.2.1 == 3 || e.2.1 == 4)).map (fun e => Cond.methodLinkNest (CN own) e.1 (mnm e.2.2) RX3))
def KK (dC : Nat → ClassId) (dI : Nat → Nat → Nat) (dA : Nat → ClassId) (U : State) : Prop := va_K (dC, dI) vwCl (TYS dA) U ∧ va_AO RX2 U ∧ ∀ w ∈ NST, va_Nw w U
def WS : List Cond := lw_tbl.filter goodWord
/-- the locals: pairs of a place and what lies there -/
abbrev Lc : Type := List (Nat × Value)
def lk (L : Lc) (i : Nat) : Option Value := match L with
  | [] => none
  | q :: r => if q.1 = i then some q.2 else lk r i
def st1 (L : Lc) (i : Nat) (v : Value) : Lc := (i, v) :: L.filter (fun q => !(q.1 == i) && !(q.1 + 1 == i && q.2.category == 2))
def st2 (L : Lc) (i : Nat) (v : Value) : Lc := (i, v) :: L.filter (fun q => !(q.1 == i) && (!(q.1 == i + 1) && !(q.1 + 1 == i && q.2.category == 2)))
def lvm (B b : Nat) (L : Lc) : Lc := L.map (fun q => (q.1, vm B b q.2))
def stw (r : List Value) : Nat := (r.map fun v => v.category).sum
def isR (v : Value) : Bool := match v with
  | .ref _ => true
  | .retAddr _ => true
  | _ => false
def cnd (c : ClassFile.Cond) (x y : Int32) : Prop := match c with
  | .eq => x = y
  | .ne => ¬ x = y
  | .lt => x < y
  | .ge => y ≤ x
  | .gt => y < x
  | .le => x ≤ y
/-- a jump's target -/
def tg (pc : Nat) (off : Int) : Nat := ((pc : Int) + off).toNat
def tgOk (pc : Nat) (off : Int) : Prop := (pc : Int) + off = ((tg pc off : Nat) : Int)
def retI (y : Nat) (x : Int32) : Prop := mrt y = some .int ∨ (mrt y = some .boolean ∧ (x = 0 ∨ x = 1))
def setI (σ : Mm) (c k : Nat) (x : Int32) : Mm := (σ.1, up2 σ.2.1 c k x, σ.2.2.1, σ.2.2.2)
def setP (σ : Mm) (c k : Nat) (x : Option Nat) : Mm := (σ.1, σ.2.1, up2 σ.2.2.1 c k x, σ.2.2.2)
def setD (σ : Mm) (c k : Nat) (x : UInt64) : Mm := (σ.1, σ.2.1, σ.2.2.1, up2 σ.2.2.2 c k x)
def cpyI (σ : Mm) (c0 sp c1 dp n : Nat) : Mm := (σ.1, cp2 σ.2.1 c0 sp c1 dp n, σ.2.2.1, σ.2.2.2)
def alc (σ : Mm) : Mm := (σ.1 + 1, rw2 σ.2.1 σ.1 (fun _ => 0), rw2 σ.2.2.1 σ.1 (fun _ => none), rw2 σ.2.2.2 σ.1 (fun _ => 0))
def atk (t : ArrayType) : Nat := match t with
  | .int => 1
  | .char => 2
  | _ => 8
abbrev Cal : Type := Nat → List Value → Mm → Option Value → Mm → Prop
abbrev Kn : Type := Nat → Lc → List Value → Mm → Prop
/-- one instruction of method y: dd frames may stand above this one, NT cells may stand at the end; scr: the script, where the method may read it -/
def stepP (dd NT : Nat) (call : Cal) (scr : Option (Nat × (Nat → Int32))) (y : Nat) (K : Kn) (Q : Option Value → Mm → Prop) (pc : Nat) (L : Lc) (st : List Value) (σ : Mm) : Prop :=
  match TB y pc with
  | none => False
  | some (i, n) => match i with
    | .aload_n k => n = 1 ∧ ∃ v, lk L k = some v ∧ isR v = true ∧ K (pc + 1) L (v :: st) σ
    | .iload_n k => n = 1 ∧ ∃ x, lk L k = some (.int x) ∧ K (pc + 1) L (.int x :: st) σ
    | .iload k => n = 2 ∧ ∃ x, lk L k = some (.int x) ∧ K (pc + 2) L (.int x :: st) σ
    | .fload_n k => n = 1 ∧ ∃ x, lk L k = some (.float x) ∧ K (pc + 1) L (.float x :: st) σ
    | .dload_n k => n = 1 ∧ ∃ x, lk L k = some (.double x) ∧ K (pc + 1) L (.double x :: st) σ
    | .dload k => n = 2 ∧ ∃ x, lk L k = some (.double x) ∧ K (pc + 2) L (.double x :: st) σ
    | .istore_n k => n = 1 ∧ (k : Nat) < mml y ∧ ∃ x r, st = .int x :: r ∧ K (pc + 1) (st1 L k (.int x)) r σ
    | .istore k => n = 2 ∧ k < mml y ∧ ∃ x r, st = .int x :: r ∧ K (pc + 2) (st1 L k (.int x)) r σ
    | .astore_n k => n = 1 ∧ (k : Nat) < mml y ∧ ∃ x r, st = .ref x :: r ∧ K (pc + 1) (st1 L k (.ref x)) r σ
    | .fstore_n k => n = 1 ∧ (k : Nat) < mml y ∧ ∃ x r, st = .float x :: r ∧ K (pc + 1) (st1 L k (.float x)) r σ
    | .dstore k => n = 2 ∧ k + 1 < mml y ∧ ∃ x r, st = .double x :: r ∧ K (pc + 2) (st2 L k (.double x)) r σ
    | .iinc k v => n = 3 ∧ k < mml y ∧ ∃ x, lk L k = some (.int x) ∧ K (pc + 3) (st1 L k (.int (x + Int32.ofInt v))) st σ
    | .iconst v => n = 1 ∧ K (pc + 1) L (.int (Int32.ofInt v) :: st) σ
    | .bipush v => n = 2 ∧ K (pc + 2) L (.int (Int8.ofInt v).toInt32 :: st) σ
    | .sipush v => n = 3 ∧ K (pc + 3) L (.int (Int16.ofInt v).toInt32 :: st) σ
    | .ldc ix => n = 2 ∧ ((∃ x, cst (mown y) ix = some (.int x) ∧ K (pc + 2) L (.int x :: st) σ) ∨ (∃ x, cst (mown y) ix = some (.float x) ∧ K (pc + 2) L (.float x :: st) σ))
    | .ldc_w ix => n = 3 ∧ ∃ x, cst (mown y) ix = some (.int x) ∧ K (pc + 3) L (.int x :: st) σ
    | .ldc2_w ix => n = 3 ∧ ∃ x, cst (mown y) ix = some (.double x) ∧ K (pc + 3) L (.double x :: st) σ
    | .fconst k => n = 1 ∧ ((k = 0 ∧ K (pc + 1) L (.float FP.fconst0 :: st) σ) ∨ (k = 1 ∧ K (pc + 1) L (.float FP.fconst1 :: st) σ) ∨ (k = 2 ∧ K (pc + 1) L (.float FP.fconst2 :: st) σ))
    | .dconst k => n = 1 ∧ ((k = 0 ∧ K (pc + 1) L (.double FP.dconst0 :: st) σ) ∨ (k = 1 ∧ K (pc + 1) L (.double FP.dconst1 :: st) σ))
    | .iadd => n = 1 ∧ ∃ a b r, st = .int b :: .int a :: r ∧ K (pc + 1) L (.int (a + b) :: r) σ
    | .isub => n = 1 ∧ ∃ a b r, st = .int b :: .int a :: r ∧ K (pc + 1) L (.int (a - b) :: r) σ
    | .imul => n = 1 ∧ ∃ a b r, st = .int b :: .int a :: r ∧ K (pc + 1) L (.int (a * b) :: r) σ
    | .irem => n = 1 ∧ ∃ a b r, st = .int b :: .int a :: r ∧ b ≠ 0 ∧ K (pc + 1) L (.int (a - a / b * b) :: r) σ
    | .iand => n = 1 ∧ ∃ a b r, st = .int b :: .int a :: r ∧ K (pc + 1) L (.int (a &&& b) :: r) σ
    | .ior => n = 1 ∧ ∃ a b r, st = .int b :: .int a :: r ∧ K (pc + 1) L (.int (a ||| b) :: r) σ
    | .ixor => n = 1 ∧ ∃ a b r, st = .int b :: .int a :: r ∧ K (pc + 1) L (.int (a ^^^ b) :: r) σ
    | .ishl => n = 1 ∧ ∃ a b r, st = .int b :: .int a :: r ∧ K (pc + 1) L (.int (a <<< (b &&& 31)) :: r) σ
    | .ishr => n = 1 ∧ ∃ a b r, st = .int b :: .int a :: r ∧ K (pc + 1) L (.int (a >>> (b &&& 31)) :: r) σ
    | .iushr => n = 1 ∧ ∃ a b r, st = .int b :: .int a :: r ∧ K (pc + 1) L (.int (a.toUInt32 >>> (b.toUInt32 &&& Int32.toUInt32 31)).toInt32 :: r) σ
    | .i2d => n = 1 ∧ ∃ a r, st = .int a :: r ∧ K (pc + 1) L (.double (FP.i2d a) :: r) σ
    | .f2i => n = 1 ∧ ∃ a r, st = .float a :: r ∧ K (pc + 1) L (.int (FP.f2i a) :: r) σ
    | .d2f => n = 1 ∧ ∃ a r, st = .double a :: r ∧ vf_n32 (FP.d2f a) ∧ K (pc + 1) L (.float (FP.d2f a) :: r) σ
    | .dadd => n = 1 ∧ ∃ a b r, st = .double b :: .double a :: r ∧ vf_n64 (FP.dadd a b) ∧ K (pc + 1) L (.double (FP.dadd a b) :: r) σ
    | .ddiv => n = 1 ∧ ∃ a b r, st = .double b :: .double a :: r ∧ vf_n64 (FP.ddiv a b) ∧ K (pc + 1) L (.double (FP.ddiv a b) :: r) σ
    | .fsub => n = 1 ∧ ∃ a b r, st = .float b :: .float a :: r ∧ vf_n32 (FP.fsub a b) ∧ K (pc + 1) L (.float (FP.fsub a b) :: r) σ
    | .fmul => n = 1 ∧ ∃ a b r, st = .float b :: .float a :: r ∧ vf_n32 (FP.fmul a b) ∧ K (pc + 1) L (.float (FP.fmul a b) :: r) σ
    | .fdiv => n = 1 ∧ ∃ a b r, st = .float b :: .float a :: r ∧ vf_n32 (FP.fdiv a b) ∧ K (pc + 1) L (.float (FP.fdiv a b) :: r) σ
    | .fcmp op => n = 1 ∧ ∃ a b r, st = .float b :: .float a :: r ∧ K (pc + 1) L (.int (Op.cmpValue (FP.fcmp a b) op) :: r) σ
    | .dcmp op => n = 1 ∧ ∃ a b r, st = .double b :: .double a :: r ∧ K (pc + 1) L (.int (Op.cmpValue (FP.dcmp a b) op) :: r) σ
    | .dup => n = 1 ∧ ∃ v r, st = v :: r ∧ v.category = 1 ∧ K (pc + 1) L (v :: v :: r) σ
    | .dup2 => n = 1 ∧ ∃ v w r, st = v :: w :: r ∧ v.category = 1 ∧ w.category = 1 ∧ K (pc + 1) L (v :: w :: v :: w :: r) σ
    | .ifCond q off => n = 3 ∧ tgOk pc off ∧ ∃ x r, st = .int x :: r ∧ (cnd q x 0 → K (tg pc off) L r σ) ∧ (¬ cnd q x 0 → K (pc + 3) L r σ)
    | .if_icmp q off => n = 3 ∧ tgOk pc off ∧ ∃ a b r, st = .int b :: .int a :: r ∧ (cnd q a b → K (tg pc off) L r σ) ∧ (¬ cnd q a b → K (pc + 3) L r σ)
    | .ifnull off => n = 3 ∧ ∃ c r, st = .ref c :: r ∧ K (pc + 3) L r σ
    | .goto off => n = 3 ∧ tgOk pc off ∧ K (tg pc off) L st σ
    | .tableswitch d lo hi offs => ∃ x r, st = .int x :: r ∧ ((x.toInt < lo ∨ hi < x.toInt) → tgOk pc d ∧ K (tg pc d) L r σ) ∧ (¬ (x.toInt < lo ∨ hi < x.toInt) → ∃ off, offs[(x.toInt - lo).toNat]? = some off ∧ tgOk pc off ∧ K (tg pc off) L r σ)
    | .lookupswitch d ps => (ps.toList.zip (ps.toList.drop 1)).all (fun (a, next) => a.1 < next.1) = true ∧ ∃ x r, st = .int x :: r ∧ tgOk pc (Op.lookupswitch.offset ps.toList d x.toInt) ∧ K (tg pc (Op.lookupswitch.offset ps.toList d x.toInt)) L r σ
    | .ireturn => n = 1 ∧ ∃ x, st = [.int x] ∧ retI y x ∧ Q (some (.int x)) σ
    | .dreturn => n = 1 ∧ ∃ x, st = [.double x] ∧ mrt y = some .double ∧ Q (some (.double x)) σ
    | .return_ => n = 1 ∧ st = [] ∧ mrt y = none ∧ Q none σ
    | .getfield ix => n = 3 ∧ ∃ c r ci k, st = .ref c :: r ∧ fld (mown y) ix = some (ci, k) ∧ c < σ.1 ∧ SH c = (0, ci) ∧ k < nf ci ∧ K (pc + 3) L (fv σ c ci k :: r) σ
    | .putfield ix => n = 3 ∧ ∃ v c r ci k, st = v :: .ref c :: r ∧ fld (mown y) ix = some (ci, k) ∧ c < σ.1 ∧ SH c = (0, ci) ∧ k < nf ci ∧ (fin ci k = true → (mnm y).name = "<init>" ∧ mown y = ci) ∧
        ((∃ x, v = .int x ∧ fkd ci k = 0 ∧ K (pc + 3) L r (setI σ c k x)) ∨ (∃ x, v = .int x ∧ fkd ci k = 1 ∧ (x = 0 ∨ x = 1) ∧ K (pc + 3) L r (setI σ c k x)) ∨ (∃ a, v = .ref a ∧ fkd ci k = 2 ∧ K (pc + 3) L r (setP σ c k (some a))))
    | .iaload => n = 1 ∧ ((∃ i c r, st = .int i :: .ref c :: r ∧ c < σ.1 ∧ (SH c).1 = 1 ∧ vp_in i (SH c).2 ∧ K (pc + 1) L (.int (σ.2.1 c i.toNatClampNeg) :: r) σ) ∨ (∃ i a r len xs, st = .int i :: .retAddr a :: r ∧ scr = some (len, xs) ∧ vp_in i len ∧ K (pc + 1) L (.int (xs i.toNatClampNeg) :: r) σ))
    | .arraylength => n = 1 ∧ ∃ a r len xs, st = .retAddr a :: r ∧ scr = some (len, xs) ∧ K (pc + 1) L (.int (Int32.ofNat len) :: r) σ
    | .aaload => n = 1 ∧ ∃ i c r, st = .int i :: .ref c :: r ∧ c < σ.1 ∧ (SH c).1 = 5 ∧ vp_in i (SH c).2 ∧ K (pc + 1) L (vrf (σ.2.2.1 c i.toNatClampNeg) :: r) σ
    | .iastore => n = 1 ∧ ∃ x i c r, st = .int x :: .int i :: .ref c :: r ∧ c < σ.1 ∧ (SH c).1 = 1 ∧ vp_in i (SH c).2 ∧ K (pc + 1) L r (setI σ c i.toNatClampNeg x)
    | .aastore => n = 1 ∧ ∃ a i c r, st = .ref a :: .int i :: .ref c :: r ∧ c < σ.1 ∧ (SH c).1 = 5 ∧ vp_in i (SH c).2 ∧ a < σ.1 ∧ SH a = (0, 2) ∧ K (pc + 1) L r (setP σ c i.toNatClampNeg (some a))
    | .newarray t => n = 2 ∧ ∃ z r, st = .int z :: r ∧ atk t < 8 ∧ SH σ.1 = (atk t, z.toNatClampNeg) ∧ ¬ z < 0 ∧ z.toNatClampNeg ≤ 6000 ∧ σ.1 < NT ∧ K (pc + 2) L (.ref σ.1 :: r) (alc σ)
    | .anewarray ix => n = 3 ∧ ∃ z r, st = .int z :: r ∧ nwc (mown y) ix = some 2 ∧ SH σ.1 = (5, z.toNatClampNeg) ∧ ¬ z < 0 ∧ z.toNatClampNeg ≤ 6000 ∧ σ.1 < NT ∧ K (pc + 3) L (.ref σ.1 :: r) (alc σ)
    | .new ix => n = 3 ∧ ∃ ci, nwc (mown y) ix = some ci ∧ SH σ.1 = (0, ci) ∧ σ.1 < NT ∧ K (pc + 3) L (.ref σ.1 :: st) (alc σ)
    | .invokevirtual ix => n = 3 ∧ ∃ y1 as c r v σ1, lnk (mown y) ix = some (0, y1) ∧ st = as.reverse ++ .ref c :: r ∧ as.length = mna y1 ∧ c < σ.1 ∧ SH c = (0, mown y1) ∧ stw r ≤ 8 ∧ call y1 (.ref c :: as) σ v σ1 ∧ σ1.1 ≤ NT ∧ K (pc + 3) L (v.toList ++ r) σ1
    | .invokestatic ix => n = 3 ∧ ((∃ y1 as r v σ1 kd, lnk (mown y) ix = some (kd, y1) ∧ (kd = 1 ∨ kd = 3) ∧ st = as.reverse ++ r ∧ as.length = mna y1 ∧ stw r ≤ 8 ∧ call y1 as σ v σ1 ∧ σ1.1 ≤ NT ∧ K (pc + 3) L (v.toList ++ r) σ1) ∨
        (∃ z dp c1 sp c0 r, lnk (mown y) ix = some (6, 0) ∧ st = .int z :: .int dp :: .ref c1 :: .int sp :: .ref c0 :: r ∧ stw r ≤ 8 ∧ 1 ≤ dd ∧ c0 < σ.1 ∧ c1 < σ.1 ∧ (SH c0).1 = 1 ∧ (SH c1).1 = 1 ∧ ¬ sp < 0 ∧ ¬ dp < 0 ∧ ¬ z < 0 ∧ sp.toNatClampNeg + z.toNatClampNeg ≤ (SH c0).2 ∧ dp.toNatClampNeg + z.toNatClampNeg ≤ (SH c1).2 ∧ K (pc + 3) L r (cpyI σ c0 sp.toNatClampNeg c1 dp.toNatClampNeg z.toNatClampNeg)) ∨
        (∃ a b r y1, lnk (mown y) ix = some (8, y1) ∧ st = .int b :: .int a :: r ∧ stw r ≤ 8 ∧ 1 ≤ dd ∧ σ.1 ≤ NT ∧ K (pc + 3) L (.int (if a < b then b else a) :: r) σ))
    | .invokespecial ix => n = 3 ∧ ((∃ y1 as c r σ1 kd, lnk (mown y) ix = some (kd, y1) ∧ (kd = 2 ∨ kd = 4) ∧ st = as.reverse ++ .ref c :: r ∧ as.length = mna y1 ∧ stw r ≤ 8 ∧ call y1 (.ref c :: as) σ none σ1 ∧ σ1.1 ≤ NT ∧ K (pc + 3) L r σ1) ∨
        (∃ c r, lnk (mown y) ix = some (5, 0) ∧ st = .ref c :: r ∧ stw r ≤ 8 ∧ 1 ≤ dd ∧ K (pc + 3) L r σ))
    | _ => False
def runP (dd NT : Nat) (call : Cal) (scr : Option (Nat × (Nat → Int32))) (y : Nat) (Q : Option Value → Mm → Prop) : Nat → Kn
  | 0, _, _, _, _ => False
  | n + 1, pc, L, st, σ => stepP dd NT call scr y (runP dd NT call scr y Q n) Q pc L st σ
/-- method y, called with 'as' over σ, answers r and leaves σ1: at most d - 1 frames stand above its own -/
def ExecS (scr : Option (Nat × (Nat → Int32))) : Nat → Cal
  | 0, _, _, _, _, _ => False
  | d + 1, y, as, σ, r, σ1 => σ.1 ≤ σ1.1 ∧ y < yLAW ∧ stw as ≤ mml y ∧ ∃ n, runP d σ1.1 (ExecS scr d) scr y (fun v σ2 => v = r ∧ σ2 = σ1) n 0 (lv_args 0 as) [] σ
/-- a call that reads no script -/
abbrev Exec : Nat → Cal := ExecS none
end
section
/-! what the tables say, in the form in which it is used -/
def TBQ_0 : List (List (Option (Instr × Nat)) × ByteArray) := [(tb_0, cX0_init), (tb_1, cX1_init), (tb_2, cX1_make), (tb_3, cX1_countSteps), (tb_4, cX1_countLiftings), (tb_5, cX1_firstStep), (tb_6, cX1_isLiftingIn), (tb_7, cX1_addNeedsOfAll), (tb_8, cX1_addWayInto), (tb_9, cX1_addNeedsOfOpening), (tb_10, cX1_addNeedsOfTaking), (tb_11, cX1_addOpening), (tb_12, cX1_addTaking)]
theorem tq_0 : ∀ q ∈ TBQ_0, tbOk q.1 q.2 = true := List.forall_mem_cons.mpr ⟨tk_0, List.forall_mem_cons.mpr ⟨tk_1, List.forall_mem_cons.mpr ⟨tk_2, List.forall_mem_cons.mpr ⟨tk_3, List.forall_mem_cons.mpr ⟨tk_4, List.forall_mem_cons.mpr ⟨tk_5, List.forall_mem_cons.mpr ⟨tk_6, List.forall_mem_cons.mpr ⟨tk_7, List.forall_mem_cons.mpr ⟨tk_8, List.forall_mem_cons.mpr ⟨tk_9, List.forall_mem_cons.mpr ⟨tk_10, List.forall_mem_cons.mpr ⟨tk_11, List.forall_mem_cons.mpr ⟨tk_12, fun _ h => absurd h List.not_mem_nil⟩⟩⟩⟩⟩⟩⟩⟩⟩⟩⟩⟩⟩
def TBQ_1 : List (List (Option (Instr × Nat)) × ByteArray) := [(tb_13, cX2_init), (tb_14, cX2_copyFrom), (tb_15, cX2_addDrawer), (tb_16, cX2_changeBottoms), (tb_17, cX2_putBack), (tb_18, cX2_isThere), (tb_19, cX2_isOpen), (tb_20, cX2_isInHand), (tb_21, cX2_isReached), (tb_22, cX2_canOpen), (tb_23, cX2_isLetByHold), (tb_24, cX2_hasBottomLeft), (tb_25, cX2_canLift)]
theorem tq_1 : ∀ q ∈ TBQ_1, tbOk q.1 q.2 = true := List.forall_mem_cons.mpr ⟨tk_13, List.forall_mem_cons.mpr ⟨tk_14, List.forall_mem_cons.mpr ⟨tk_15, List.forall_mem_cons.mpr ⟨tk_16, List.forall_mem_cons.mpr ⟨tk_17, List.forall_mem_cons.mpr ⟨tk_18, List.forall_mem_cons.mpr ⟨tk_19, List.forall_mem_cons.mpr ⟨tk_20, List.forall_mem_cons.mpr ⟨tk_21, List.forall_mem_cons.mpr ⟨tk_22, List.forall_mem_cons.mpr ⟨tk_23, List.forall_mem_cons.mpr ⟨tk_24, List.forall_mem_cons.mpr ⟨tk_25, fun _ h => absurd h List.not_mem_nil⟩⟩⟩⟩⟩⟩⟩⟩⟩⟩⟩⟩⟩
def TBQ_2 : List (List (Option (Instr × Nat)) × ByteArray) := [(tb_26, cX2_canTake), (tb_27, cX2_canSeal), (tb_28, cX2_setOpen), (tb_29, cX2_addStep), (tb_30, cX2_makeAllSteps), (tb_31, cX2_makeSteps), (tb_32, cX2_hasAllHolders), (tb_33, cX2_openableNow), (tb_34, cX2_countWholeSeals), (tb_35, cX2_countThingsInDrawers), (tb_36, cX2_countThingsIn), (tb_37, cX2_countOuters), (tb_38, cX3_init)]
theorem tq_2 : ∀ q ∈ TBQ_2, tbOk q.1 q.2 = true := List.forall_mem_cons.mpr ⟨tk_26, List.forall_mem_cons.mpr ⟨tk_27, List.forall_mem_cons.mpr ⟨tk_28, List.forall_mem_cons.mpr ⟨tk_29, List.forall_mem_cons.mpr ⟨tk_30, List.forall_mem_cons.mpr ⟨tk_31, List.forall_mem_cons.mpr ⟨tk_32, List.forall_mem_cons.mpr ⟨tk_33, List.forall_mem_cons.mpr ⟨tk_34, List.forall_mem_cons.mpr ⟨tk_35, List.forall_mem_cons.mpr ⟨tk_36, List.forall_mem_cons.mpr ⟨tk_37, List.forall_mem_cons.mpr ⟨tk_38, fun _ h => absurd h List.not_mem_nil⟩⟩⟩⟩⟩⟩⟩⟩⟩⟩⟩⟩⟩
def TBQ_3 : List (List (Option (Instr × Nat)) × ByteArray) := [(tb_39, cX3_build), (tb_40, cX3_setBottoms), (tb_41, cX3_lay), (tb_42, cX3_begin), (tb_43, cX3_giveUp), (tb_44, cX3_open), (tb_45, cX3_close), (tb_46, cX3_lift), (tb_47, cX3_take), (tb_48, cX3_seal), (tb_49, cX3_undo), (tb_50, cX3_drawer), (tb_51, cX3_thing)]
theorem tq_3 : ∀ q ∈ TBQ_3, tbOk q.1 q.2 = true := List.forall_mem_cons.mpr ⟨tk_39, List.forall_mem_cons.mpr ⟨tk_40, List.forall_mem_cons.mpr ⟨tk_41, List.forall_mem_cons.mpr ⟨tk_42, List.forall_mem_cons.mpr ⟨tk_43, List.forall_mem_cons.mpr ⟨tk_44, List.forall_mem_cons.mpr ⟨tk_45, List.forall_mem_cons.mpr ⟨tk_46, List.forall_mem_cons.mpr ⟨tk_47, List.forall_mem_cons.mpr ⟨tk_48, List.forall_mem_cons.mpr ⟨tk_49, List.forall_mem_cons.mpr ⟨tk_50, List.forall_mem_cons.mpr ⟨tk_51, fun _ h => absurd h List.not_mem_nil⟩⟩⟩⟩⟩⟩⟩⟩⟩⟩⟩⟩⟩
def TBQ_4 : List (List (Option (Instr × Nat)) × ByteArray) := [(tb_52, cX3_needs), (tb_53, cX3_hint), (tb_54, cX3_minutes), (tb_55, cX3_minutesBits), (tb_56, cX3_count), (tb_57, cX3_isHold), (tb_58, cX3_isThing), (tb_59, cX3_oneIf), (tb_60, cX3_bit), (tb_61, cX3_isIn), (tb_62, cX3_bitsOf), (tb_63, cX3_recordState), (tb_64, cX3_dropOldest)]
theorem tq_4 : ∀ q ∈ TBQ_4, tbOk q.1 q.2 = true := List.forall_mem_cons.mpr ⟨tk_52, List.forall_mem_cons.mpr ⟨tk_53, List.forall_mem_cons.mpr ⟨tk_54, List.forall_mem_cons.mpr ⟨tk_55, List.forall_mem_cons.mpr ⟨tk_56, List.forall_mem_cons.mpr ⟨tk_57, List.forall_mem_cons.mpr ⟨tk_58, List.forall_mem_cons.mpr ⟨tk_59, List.forall_mem_cons.mpr ⟨tk_60, List.forall_mem_cons.mpr ⟨tk_61, List.forall_mem_cons.mpr ⟨tk_62, List.forall_mem_cons.mpr ⟨tk_63, List.forall_mem_cons.mpr ⟨tk_64, fun _ h => absurd h List.not_mem_nil⟩⟩⟩⟩⟩⟩⟩⟩⟩⟩⟩⟩⟩
def TBQ_5 : List (List (Option (Instr × Nat)) × ByteArray) := [(tb_65, cX3_copyState), (tb_66, cX3_canComeTo), (tb_67, cX3_neverOpened), (tb_68, cJ6_bitCount_0f7a4), (tb_69, cJ9_max_7cf53), (tb_70, cL_cell), (tb_71, cL_bits), (tb_72, cL_isNeeded), (tb_73, cL_goes), (tb_74, cL_builds), (tb_75, cL_isAll), (tb_76, cL_acts), (tb_77, cL_law)]
theorem tq_5 : ∀ q ∈ TBQ_5, tbOk q.1 q.2 = true := List.forall_mem_cons.mpr ⟨tk_65, List.forall_mem_cons.mpr ⟨tk_66, List.forall_mem_cons.mpr ⟨tk_67, List.forall_mem_cons.mpr ⟨tk_68, List.forall_mem_cons.mpr ⟨tk_69, List.forall_mem_cons.mpr ⟨tk_70, List.forall_mem_cons.mpr ⟨tk_71, List.forall_mem_cons.mpr ⟨tk_72, List.forall_mem_cons.mpr ⟨tk_73, List.forall_mem_cons.mpr ⟨tk_74, List.forall_mem_cons.mpr ⟨tk_75, List.forall_mem_cons.mpr ⟨tk_76, List.forall_mem_cons.mpr ⟨tk_77, fun _ h => absurd h List.not_mem_nil⟩⟩⟩⟩⟩⟩⟩⟩⟩⟩⟩⟩⟩
def TBQ : List (List (Option (Instr × Nat)) × ByteArray) := TBQ_0 ++ (TBQ_1 ++ (TBQ_2 ++ (TBQ_3 ++ (TBQ_4 ++ (TBQ_5)))))
theorem tq : ∀ q ∈ TBQ, tbOk q.1 q.2 = true := List.forall_mem_append.mpr ⟨tq_0, List.forall_mem_append.mpr ⟨tq_1, List.forall_mem_append.mpr ⟨tq_2, List.forall_mem_append.mpr ⟨tq_3, List.forall_mem_append.mpr ⟨tq_4, tq_5⟩⟩⟩⟩⟩
set_option maxRecDepth 100000 in
theorem tbq_eq : TBS.zip (MT.map (fun e => e.2.2.1)) = TBQ := rfl
set_option maxRecDepth 100000 in
theorem mt_len : MT.length = NM := rfl
set_option maxRecDepth 100000 in
theorem tbs_len : TBS.length = NM := rfl
theorem lk_in (own : Nat) : ∀ e ∈ LK own, ∀ w ∈ wLink own e, w ∈ lw_tbl := by
  match own with
  | 0 => exact fun e he w hw => pL_0 w (List.mem_flatMap.mpr ⟨e, he, hw⟩)
  | 1 => exact fun e he w hw => pL_1 w (List.mem_flatMap.mpr ⟨e, he, hw⟩)
  | 2 => exact fun e he w hw => pL_2 w (List.mem_flatMap.mpr ⟨e, he, hw⟩)
  | 3 => exact fun e he w hw => pL_3 w (List.mem_flatMap.mpr ⟨e, he, hw⟩)
  | 4 => exact fun e he => absurd he List.not_mem_nil
  | 5 => exact fun e he => absurd he List.not_mem_nil
  | 6 => exact fun e he => absurd he List.not_mem_nil
  | k + 7 => exact fun e he w hw => pL_7 w (List.mem_flatMap.mpr ⟨e, he, hw⟩)
theorem fk_in (own : Nat) : ∀ e ∈ FK own, wFld own e ∈ lw_tbl := by
  match own with
  | 0 => exact fun e he => pF_0 _ (List.mem_map.mpr ⟨e, he, rfl⟩)
  | 1 => exact fun e he => pF_1 _ (List.mem_map.mpr ⟨e, he, rfl⟩)
  | 2 => exact fun e he => pF_2 _ (List.mem_map.mpr ⟨e, he, rfl⟩)
  | 3 => exact fun e he => pF_3 _ (List.mem_map.mpr ⟨e, he, rfl⟩)
  | 4 => exact fun e he => absurd he List.not_mem_nil
  | 5 => exact fun e he => absurd he List.not_mem_nil
  | 6 => exact fun e he => absurd he List.not_mem_nil
  | k + 7 => exact fun e he => absurd he List.not_mem_nil
theorem ck_in (own : Nat) : ∀ e ∈ CK own, wCst own e ∈ lw_tbl := by
  match own with
  | 0 => exact fun e he => absurd he List.not_mem_nil
  | 1 => exact fun e he => absurd he List.not_mem_nil
  | 2 => exact fun e he => absurd he List.not_mem_nil
  | 3 => exact fun e he => pK_3 _ (List.mem_map.mpr ⟨e, he, rfl⟩)
  | 4 => exact fun e he => pK_4 _ (List.mem_map.mpr ⟨e, he, rfl⟩)
  | 5 => exact fun e he => absurd he List.not_mem_nil
  | 6 => exact fun e he => absurd he List.not_mem_nil
  | k + 7 => exact fun e he => pK_7 _ (List.mem_map.mpr ⟨e, he, rfl⟩)
theorem nk_in (own : Nat) : ∀ e ∈ NK own, ∀ w ∈ wNew own e, w ∈ lw_tbl := by
  match own with
  | 0 => exact fun e he => absurd he List.not_mem_nil
  | 1 => exact fun e he => absurd he List.not_mem_nil
  | 2 => exact fun e he => absurd he List.not_mem_nil
  | 3 => exact fun e he w hw => pN_3 w (List.mem_flatMap.mpr ⟨e, he, hw⟩)
  | 4 => exact fun e he => absurd he List.not_mem_nil
  | 5 => exact fun e he => absurd he List.not_mem_nil
  | 6 => exact fun e he => absurd he List.not_mem_nil
  | k + 7 => exact fun e he w hw => pN_7 w (List.mem_flatMap.mpr ⟨e, he, hw⟩)
theorem mt_in : ∀ e ∈ MT.take yLAW, wCode e ∈ lw_tbl := by
  have h : MT.take yLAW = MT_0 ++ (MT_1 ++ (MT_2 ++ (MT_3 ++ (MT_4 ++ (MT_5.take 12))))) := rfl
  rw [h]
  exact List.forall_mem_append.mpr ⟨fun e he => pC_0 _ (List.mem_map.mpr ⟨e, he, rfl⟩), List.forall_mem_append.mpr ⟨fun e he => pC_1 _ (List.mem_map.mpr ⟨e, he, rfl⟩), List.forall_mem_append.mpr ⟨fun e he => pC_2 _ (List.mem_map.mpr ⟨e, he, rfl⟩), List.forall_mem_append.mpr ⟨fun e he => pC_3 _ (List.mem_map.mpr ⟨e, he, rfl⟩), List.forall_mem_append.mpr ⟨fun e he => pC_4 _ (List.mem_map.mpr ⟨e, he, rfl⟩), fun e he => pC_5 _ (List.mem_map.mpr ⟨e, he, rfl⟩)⟩⟩⟩⟩⟩
theorem mem_WS {w : Cond} (h : w ∈ lw_tbl) (g : goodWord w = true) : w ∈ WS := List.mem_filter.mpr ⟨h, g⟩
theorem WS_good : ∀ w ∈ WS, goodWord w = true := fun _ h => (List.mem_filter.mp h).2
theorem find_in {α : Type} {l : List (Nat × α)} {ix : Nat} {q : α} (h : (l.find? (fun e => e.1 == ix)).map (·.2) = some q) : (ix, q) ∈ l := by
  obtain ⟨e, he, hq⟩ := Option.map_eq_some_iff.mp h
  have h1 := List.find?_some he
  have h2 := List.mem_of_find?_eq_some he
  have h3 : e.1 = ix := by simpa using h1
  obtain ⟨a, b⟩ := e
  dsimp only at h3 hq
  subst h3; subst hq
  exact h2
theorem lnk_in {own ix : Nat} {q : Nat × Nat} (h : lnk own ix = some q) : ∀ w ∈ wLink own (ix, q), w ∈ lw_tbl := lk_in own (ix, q) (find_in h)
theorem fld_in {own ix : Nat} {q : Nat × Nat} (h : fld own ix = some q) : wFld own (ix, q) ∈ lw_tbl := fk_in own (ix, q) (find_in h)
theorem cst_in {own ix : Nat} {v : Value} (h : cst own ix = some v) : wCst own (ix, v) ∈ lw_tbl := ck_in own (ix, v) (find_in h)
theorem nwc_in {own ix : Nat} {ci : Nat} (h : nwc own ix = some ci) : ∀ w ∈ wNew own (ix, ci), w ∈ lw_tbl := nk_in own (ix, ci) (find_in h)
theorem mrow_at {y : Nat} (h : y < NM) : MT[y]? = some (mrow y) := by
  have h1 : y < MT.length := by rw [mt_len]; exact h
  rw [List.getElem?_eq_getElem h1, mrow, List.getD_eq_getElem?_getD, List.getElem?_eq_getElem h1]
  rfl
theorem TB_ok {y pc n : Nat} {i : Instr} (hy : y < NM) (h : TB y pc = some (i, n)) : decode (mcd y) pc = .ok (i, n) := by
  unfold TB at h
  cases ht : TBS[y]? with
  | none => rw [ht] at h; cases h
  | some tb =>
    rw [ht] at h
    dsimp only at h
    have hm : (tb, mcd y) ∈ TBQ := by
      rw [← tbq_eq]
      refine List.mem_of_getElem? (i := y) ?_
      rw [List.getElem?_zip_eq_some]
      refine ⟨ht, ?_⟩
      rw [List.getElem?_map, mrow_at hy]
      rfl
    have hq := tq _ hm
    cases hp : tb[pc]? with
    | none => rw [hp] at h; cases h
    | some r =>
      rw [hp] at h
      dsimp only at h
      subst h
      have hlt : pc < tb.length := (List.getElem?_eq_some_iff.mp hp).1
      have h2 := List.all_eq_true.mp hq pc (List.mem_range.mpr hlt)
      rw [hp] at h2
      simpa using h2
theorem mt_word {y : Nat} (hy : y < yLAW) : Cond.code (mnm y) (mcd y) (mml y) (mrt y) ∈ lw_tbl := by
  have h1 := mrow_at (y := y) (Nat.lt_trans hy (by decide))
  refine mt_in (mrow y) (List.mem_of_getElem? (i := y) ?_)
  rw [List.getElem?_take_of_lt hy]
  exact h1
set_option maxRecDepth 100000 in
theorem mt_facts : ∀ y, y < NM → (mnm y).cls = CN (mown y) ∧ plainFor (mnm y) = true ∧ ((mnm y).cls ≠ "java/lang/invoke/MethodHandle" ∧ (mnm y).cls ≠ "java/lang/invoke/VarHandle" ∧ (parseMethodDescriptor (mnm y).desc).map (fun d => d.parameters.length) = some (mna y)) ∧ mml y ≤ 16 ∧ mown y < 8 := by decide +kernel
theorem in_init {c : Nat} (h : c < 8) : Cond.initialized (CN c) ∈ lw_tbl := pI _ (List.mem_map.mpr ⟨c, by
  have : c = 0 ∨ c = 1 ∨ c = 2 ∨ c = 3 ∨ c = 4 ∨ c = 5 ∨ c = 6 ∨ c = 7 := by omega
  simpa using this, rfl⟩)
theorem lays_good {C : String} {T : u_T} {N : Nat} : ∀ w ∈ u_ws C T N, goodWord w = true := by
  intro w hw
  obtain ⟨k, -, rfl⟩ := List.mem_map.mp hw
  unfold u_lay
  split <;> first | rfl | simp [goodWord, Cond.onTables, Cond.keeps, Cond.steady]
/-- the classes whose objects the world holds -/
theorem cl_ok {ci : Nat} {r : vw_C} (h : vwCl[ci]? = some r) : (∀ w ∈ u_ws r.1 r.2.1 r.2.2, w ∈ WS) ∧ (∀ k, k < r.2.2 → parseFieldDescriptor (r.2.1 k).2.2.1 = some (tyOf ci k)) ∧ (∀ a, a < r.2.2 → ∀ b, b < r.2.2 → a ≠ b → (r.2.1 a).2.1 ≠ (r.2.1 b).2.1) ∧ r.1 = CN ci ∧ nf ci = r.2.2 ∧ (∀ k, fin ci k = (r.2.1 k).2.2.2) ∧ (∀ k, k < r.2.2 → (r.2.1 k).1 = r.1) := by
  match ci, h with
  | 0, h => cases h; exact ⟨fun w hw => mem_WS (inF_0 w hw) (lays_good w hw), tyX0_ok, nmX0, rfl, rfl, fun _ => rfl, by decide +kernel⟩
  | 1, h => cases h; exact ⟨fun w hw => mem_WS (inF_1 w hw) (lays_good w hw), tyX1_ok, nmX1, rfl, rfl, fun _ => rfl, by decide +kernel⟩
  | 2, h => cases h; exact ⟨fun w hw => mem_WS (inF_2 w hw) (lays_good w hw), tyX2_ok, nmX2, rfl, rfl, fun _ => rfl, by decide +kernel⟩
  | 3, h => cases h; exact ⟨fun w hw => mem_WS (inF_3 w hw) (lays_good w hw), tyX3_ok, nmX3, rfl, rfl, fun _ => rfl, by decide +kernel⟩
  | k + 4, h => simp [vwCl] at h
theorem nf_some {ci k : Nat} (h : k < nf ci) : ∃ r, vwCl[ci]? = some r ∧ nf ci = r.2.2 := by
  cases hc : vwCl[ci]? with
  | none => unfold nf at h; rw [hc] at h; exact absurd h (Nat.not_lt_zero _)
  | some r => exact ⟨r, rfl, by unfold nf; rw [hc]⟩
theorem in_X {w : Cond} (h : w ∈ [Cond.arrayClass .int, .arrayClass .char, .arrayOver (.object RX2), .code objectInit ⟨#[0xb1]⟩ 1 none]) : w ∈ lw_tbl := pX w h
end
section
/-! SOUNDNESS of one step: what the interpreter does, the machine does -/
section S0
variable {B b : Nat} {dA : Nat → ClassId}
theorem vm_cat (v : Value) : (vm B b v).category = v.category := by cases v <;> rfl
theorem stw_vm (r : List Value) : ((r.map (vm B b)).map fun v => v.category).sum = stw r := by
  unfold stw
  rw [List.map_map]
  congr 1
  exact List.map_congr_left (fun v _ => vm_cat v)
theorem lk_mem : ∀ {L : Lc} {i : Nat} {v : Value}, lk L i = some v → (i, v) ∈ L
  | [], _, _, h => by cases h
  | q :: r, i, v, h => by
    unfold lk at h
    by_cases hq : q.1 = i
    · rw [if_pos hq] at h
      cases h
      rw [← hq]
      exact List.mem_cons_self
    · rw [if_neg hq] at h
      exact List.mem_cons_of_mem _ (lk_mem h)
theorem lv_lk {ls : Array Slot} {nL i : Nat} {L : Lc} {v : Value} (h : lv_has ls nL (lvm B b L)) (hk : lk L i = some v) : ls[i]? = some (.val (vm B b v)) :=
  h.2.2 (i, vm B b v) (List.mem_map.mpr ⟨(i, v), lk_mem hk, rfl⟩)
theorem st1_vm (L : Lc) (i : Nat) (v : Value) : (i, vm B b v) :: (lvm B b L).filter (fun q => !(q.1 == i) && !(q.1 + 1 == i && q.2.category == 2)) = lvm B b (st1 L i v) := by
  unfold lvm st1
  rw [List.map_cons, List.filter_map]
  congr 2
  apply List.filter_congr
  intro q _
  show (!(q.1 == i) && !(q.1 + 1 == i && (vm B b q.2).category == 2)) = _
  rw [vm_cat]
theorem st2_vm (L : Lc) (i : Nat) (v : Value) : (i, vm B b v) :: (lvm B b L).filter (fun q => !(q.1 == i) && (!(q.1 == i + 1) && !(q.1 + 1 == i && q.2.category == 2))) = lvm B b (st2 L i v) := by
  unfold lvm st2
  rw [List.map_cons, List.filter_map]
  congr 2
  apply List.filter_congr
  intro q _
  show (!(q.1 == i) && (!(q.1 == i + 1) && !(q.1 + 1 == i && (vm B b q.2).category == 2))) = _
  rw [vm_cat]
theorem wd_get {σ : Mm} {c : Nat} (h : c < σ.1) : (wd B b dA σ)[c]? = some (B + c, ent B b dA σ c) := by
  simp [wd, h]
theorem wd_len (σ : Mm) : (wd B b dA σ).length = σ.1 := by simp [wd]
theorem wd_at {σ : Mm} {k : Nat} {q : Nat × va_E} (h : (wd B b dA σ)[k]? = some q) : k < σ.1 ∧ q = (B + k, ent B b dA σ k) := by
  have hk : k < σ.1 := by
    have := (List.getElem?_eq_some_iff.mp h).1
    rwa [wd_len] at this
  rw [wd_get hk] at h
  exact ⟨hk, (Option.some.inj h).symm⟩
theorem wd_D (σ : Mm) : va_D (fun q => B ≤ q) (wd B b dA σ) := by
  refine ⟨fun i j p q hi hj h => ?_, fun k q hk => ?_⟩
  · rw [(wd_at hi).2, (wd_at hj).2] at h
    dsimp only at h
    omega
  · rw [(wd_at hk).2]
    exact Nat.le_add_right _ _
theorem wd_set {σ σ1 : Mm} {c : Nat} {e : va_E} (hN : σ1.1 = σ.1) (hc : ent B b dA σ1 c = e) (he : ∀ a, a ≠ c → ent B b dA σ1 a = ent B b dA σ a) : (wd B b dA σ).set c (B + c, e) = wd B b dA σ1 := by
  apply List.ext_getElem?
  intro k
  rw [List.getElem?_set]
  by_cases hk : c = k
  · subst hk
    rw [if_pos rfl]
    by_cases h : c < σ.1
    · rw [wd_len, if_pos h, wd_get (by rw [hN]; exact h), hc]
    · rw [wd_len, if_neg h]
      rw [List.getElem?_eq_none (by rw [wd_len, hN]; omega)]
  · rw [if_neg hk]
    by_cases h : k < σ.1
    · rw [wd_get h, wd_get (by rw [hN]; exact h), he k (fun q => hk q.symm)]
    · rw [List.getElem?_eq_none (by rw [wd_len]; omega), List.getElem?_eq_none (by rw [wd_len, hN]; omega)]
theorem wd_push {σ σ1 : Mm} {e : va_E} (hN : σ1.1 = σ.1 + 1) (hc : ent B b dA σ1 σ.1 = e) (he : ∀ a, a < σ.1 → ent B b dA σ1 a = ent B b dA σ a) : wd B b dA σ ++ [(B + σ.1, e)] = wd B b dA σ1 := by
  unfold wd
  rw [hN, List.range_succ, List.map_append, List.map_cons, List.map_nil, hc]
  congr 1
  exact List.map_congr_left (fun a ha => by rw [he a (List.mem_range.mp ha)])
theorem fv_eq {σ σ1 : Mm} {c ci k : Nat} (h1 : σ1.2.1 c k = σ.2.1 c k) (h2 : σ1.2.2.1 c k = σ.2.2.1 c k) : fv σ1 c ci k = fv σ c ci k := by
  unfold fv; rw [h1, h2]
theorem ent_eq {σ σ1 : Mm} {c : Nat} (h1 : σ1.2.1 c = σ.2.1 c) (h2 : σ1.2.2.1 c = σ.2.2.1 c) (h3 : σ1.2.2.2 c = σ.2.2.2 c) : ent B b dA σ1 c = ent B b dA σ c := by
  unfold ent
  rw [h1, h2, h3]
  split <;> first | rfl | (congr 2; exact List.map_congr_left (fun k _ => by rw [fv_eq (congrFun h1 k) (congrFun h2 k)]))
theorem ent_o {σ : Mm} {c ci : Nat} (h : SH c = (0, ci)) : ent B b dA σ c = .inr (ci, (List.range (nf ci)).map (fun k => vm B b (fv σ c ci k))) := by
  unfold ent; rw [h]; rfl
theorem ent_i {σ : Mm} {c t : Nat} (h : (SH c).1 = t) (ht : t = 1 ∨ t = 2 ∨ t = 3) : ent B b dA σ c = .inl (dA t, (SH c).2, .inl (σ.2.1 c)) := by
  have h' : SH c = (t, (SH c).2) := by rw [← h]
  unfold ent
  rw [h']
  rcases ht with rfl | rfl | rfl <;> rfl
theorem ent_d {σ : Mm} {c : Nat} (h : (SH c).1 = 4) : ent B b dA σ c = .inl (dA 4, (SH c).2, .inr (.inr (.inr (.inl (σ.2.2.2 c))))) := by
  have h' : SH c = (4, (SH c).2) := by rw [← h]
  unfold ent
  rw [h']
  rfl
theorem ent_q {σ : Mm} {c : Nat} (h : (SH c).1 = 5) : ent B b dA σ c = .inl (dA 5, (SH c).2, .inr (.inr (.inr (.inr (fun j => (σ.2.2.1 c j).map (B + ·)))))) := by
  have h' : SH c = (5, (SH c).2) := by rw [← h]
  unfold ent
  rw [h']
  rfl
theorem upd_eq (f : Nat → Int32) (k : Nat) (x : Int32) : upd f k x = fun j => if j = k then x else f j := rfl
theorem vm_vrf (o : Option Nat) : vm B b (vrf o) = va_rf (o.map (B + ·)) := by cases o <;> rfl
end S0
theorem NST_form {w : Cond} (h : w ∈ NST) : ∃ a i x hh, w = .methodLinkNest a i x hh := by
  obtain ⟨own, -, h⟩ := List.mem_flatMap.mp h
  obtain ⟨e, -, rfl⟩ := List.mem_map.mp h
  exact ⟨_, _, _, _, rfl⟩
theorem NST_in {own ix kd y1 : Nat} (ho : own < 8) (h : lnk own ix = some (kd, y1)) (hk : kd = 3 ∨ kd = 4) : Cond.methodLinkNest (CN own) ix (mnm y1) RX3 ∈ NST := by
  refine List.mem_flatMap.mpr ⟨own, List.mem_range.mpr ho, List.mem_map.mpr ⟨(ix, kd, y1), List.mem_filter.mpr ⟨find_in h, ?_⟩, rfl⟩⟩
  rcases hk with rfl | rfl <;> rfl
theorem KK.warm {dC : Nat → ClassId} {dI : Nat → Nat → Nat} {dA : Nat → ClassId} {s U : State} (hW : s.WarmedH U.vm) (h : KK dC dI dA s) : KK dC dI dA U := by
  refine ⟨va_K.moved hW.alike h.1, va_AO.moved hW.alike h.2.1, fun w hw => ?_⟩
  obtain ⟨a, i, x, hh, rfl⟩ := NST_form hw
  exact va_Nw.warmM hW (h.2.2 _ hw)
theorem KK.same {dC : Nat → ClassId} {dI : Nat → Nat → Nat} {dA : Nat → ClassId} {u U : State} (hv : u.vm = U.vm) (h : KK dC dI dA u) : KK dC dI dA U := by
  refine ⟨va_K.moved (by rw [hv]; exact Vm.Alike.refl _) h.1, va_AO.moved (by rw [hv]; exact Vm.Alike.refl _) h.2.1, fun w hw => ?_⟩
  obtain ⟨a, i, x, hh, rfl⟩ := NST_form hw
  exact va_Nw.same rfl hv (h.2.2 _ hw)
/-- the world of a state, as a method's start and end say it -/
def Wo (B b : Nat) (dC : Nat → ClassId) (dI : Nat → Nat → Nat) (dA : Nat → ClassId) (σ : Mm) (U : State) : Prop := U.heap.size = B + σ.1 ∧ va_P (dC, dI) vwCl (wd B b dA σ) U.heap ∧ KK dC dI dA U
/-- the script, where a method may read it -/
def scOk (B b : Nat) (scr : Option (Nat × (Nat → Int32))) (U : State) : Prop := ∀ len xs, scr = some (len, xs) → va_X b len xs U U.heap ∧ b < U.heap.size ∧ b < B
def PcG (B b : Nat) (dC : Nat → ClassId) (dI : Nat → Nat → Nat) (dA : Nat → ClassId) (scr : Option (Nat × (Nat → Int32))) (as : List Value) (σ : Mm) : Array Value → State → Prop := fun v U => v = (as.map (vm B b)).toArray ∧ Wo B b dC dI dA σ U ∧ scOk B b scr U
def QcG (B b : Nat) (dC : Nat → ClassId) (dI : Nat → Nat → Nat) (dA : Nat → ClassId) (r : Option Value) (σ : Mm) : Array Value → State → Outcome → State → Prop := fun _ st o t => o = .returned (r.map (vm B b)) ∧ t.heap.size = B + σ.1 ∧ va_P (dC, dI) vwCl (wd B b dA σ) t.heap ∧ ∀ q : Nat, q < B → t.heap[q]? = st.heap[q]?
/-- the words of a method: its code, and all words that pass a call -/
def wsG (y : Nat) : List Cond := .code (mnm y) (mcd y) (mml y) (mrt y) :: WS
/-- THE CONTRACT of a call of the interpreter -/
def CT (l : Launch) (B b : Nat) (dC : Nat → ClassId) (dI : Nat → Nat → Nat) (dA : Nat → ClassId) (scr : Option (Nat × (Nat → Int32))) (d y : Nat) (as : List Value) (σ : Mm) (r : Option Value) (σ1 : Mm) : Prop :=
  Met l (mnm y) (wsG y) ({ frames := d, cells := σ1.1 - σ.1, slots := SZ σ1.1 - SZ σ.1, locals := 35 * d }) (PcG B b dC dI dA scr as σ) (QcG B b dC dI dA r σ1) (σ1.1 - σ.1) (SZ σ1.1 - SZ σ.1) (fun q => B ≤ q)
theorem code_good {y : Nat} : goodWord (Cond.code (mnm y) (mcd y) (mml y) (mrt y)) = true := by first | rfl | simp [goodWord, Cond.onTables, Cond.keeps, Cond.steady]
theorem wsG_in {y : Nat} (hy : y < yLAW) : GoodIn WS (wsG y) := by
  intro w hw
  rcases List.mem_cons.mp hw with rfl | h
  · exact ⟨mem_WS (mt_word hy) code_good, good_of_word code_good⟩
  · exact ⟨h, good_of_word (WS_good w h)⟩
theorem PcG_blind {B b : Nat} {dC : Nat → ClassId} {dI : Nat → Nat → Nat} {dA : Nat → ClassId} {scr : Option (Nat × (Nat → Int32))} {as : List Value} {σ : Mm} : FrameBlind (PcG B b dC dI dA scr as σ) := fun a U g mk h => ⟨h.1, ⟨h.2.1.1, h.2.1.2.1, KK.same (u := U) (U := U.calling g mk a) rfl h.2.1.2.2⟩, fun len xs e => ⟨va_X.moved (u := U) (U := U.calling g mk a) (Vm.Alike.refl _) (h.2.2 len xs e).1, (h.2.2 len xs e).2⟩⟩
theorem SZ_succ (n : Nat) : SZ (n + 1) = SZ n + szc n := by
  unfold SZ; rw [List.range_succ, List.map_append, List.sum_append]; simp
theorem SZ_mono {a b : Nat} (h : a ≤ b) : SZ a ≤ SZ b := by
  induction b with
  | zero => rw [Nat.le_zero.mp h]; exact Nat.le_refl _
  | succ n ih =>
    rcases Nat.lt_or_ge n a with q | q
    · rw [show a = n + 1 by omega]; exact Nat.le_refl _
    · rw [SZ_succ]; exact Nat.le_trans (ih q) (Nat.le_add_right _ _)
end
section
/-! SOUNDNESS, the step -/
def RetOk (y pc : Nat) (v : Option Value) : Prop := match v with
  | none => decode (mcd y) pc = .ok (.return_, 1) ∧ mrt y = none
  | some (.int x) => decode (mcd y) pc = .ok (.ireturn, 1) ∧ retI y x
  | some (.double _) => decode (mcd y) pc = .ok (.dreturn, 1) ∧ mrt y = some .double
  | _ => False
section ST
variable {p : Program} {l : Launch} {e : Env} {R : Room} {s : State} {m : MethodId} {args : Array Value} {below : List Frame} {meth : Method} {c : Code} {Q : State → Prop}
variable {B b : Nat} {dC : Nat → ClassId} {dI : Nat → Nat → Nat} {dA : Nat → ClassId} {N0 dd NT y : Nat} {scr : Option (Nat × (Nat → Int32))} {call : Cal} {K : Kn} {Q1 : Option Value → Mm → Prop}
/-- the world at a point of the frame -/
def HF (B b : Nat) (dC : Nat → ClassId) (dI : Nat → Nat → Nat) (dA : Nat → ClassId) (N0 : Nat) (s : State) (σ : Mm) (H : Heap) (locs : List Loc) (cells slots : Nat) : Prop :=
  va_P (dC, dI) vwCl (wd B b dA σ) H ∧ va_S (fun q => B ≤ q) s.heap H locs ∧ cells + N0 = σ.1 ∧ slots + SZ N0 = SZ σ.1
theorem W_size {σ : Mm} {H : Heap} {locs : List Loc} {cells slots : Nat} {g : JFrame} (hs : s.heap.size = B + N0) (hH : HF B b dC dI dA N0 s σ H locs cells slots) (k : H.size = B + σ.1 → W p l e R s m args below meth c H locs cells slots Q g) : W p l e R s m args below meth c H locs cells slots Q g := by
  intro T hT X
  refine k ?_ T hT X
  have h1 := X.heapSize
  rw [hT] at h1
  obtain ⟨hP, hS, hc, -⟩ := hH
  have h2 := hS.1
  by_cases h0 : σ.1 = 0
  · omega
  · have h3 := (hP (σ.1 - 1) _ (wd_get (by omega))).lt
    dsimp only at h3
    omega
/-- what holds of the frame all along -/
def FX (p : Program) (l : Launch) (R : Room) (s : State) (m : MethodId) (args : Array Value) (meth : Method) (c : Code) (B b : Nat) (dC : Nat → ClassId) (dI : Nat → Nat → Nat) (dA : Nat → ClassId) (N0 dd NT y : Nat) (scr : Option (Nat × (Nat → Int32))) (call : Cal) : Prop :=
  p.tables.exec = Jvm.exec ∧ c.code = mcd y ∧ c.maxLocals = mml y ∧ s.vm.findClass (CN (mown y)) = some m.cls ∧ ((mnm y).name = "<init>" → meth.name = "<init>") ∧ y < NM ∧ (∀ w ∈ WS, w.before args s = true) ∧ dd ≤ R.frames ∧ 35 * dd ≤ R.locals ∧ NT ≤ N0 + R.cells ∧ SZ NT ≤ SZ N0 + R.slots ∧ KK dC dI dA s ∧ s.heap.size = B + N0 ∧
  (∀ len xs, scr = some (len, xs) → va_X b len xs s s.heap ∧ b < s.heap.size ∧ b < B) ∧
  (∀ y1 as σ v σ1, call y1 as σ v σ1 → σ.1 ≤ σ1.1 ∧ y1 < yLAW ∧ ∃ d, d + 1 ≤ dd ∧ CT l B b dC dI dA scr d y1 as σ v σ1)
theorem fkd0 {ci k : Nat} (h : fkd ci k = 0) : tyOf ci k = .int := by
  unfold fkd at h; split at h <;> first | assumption | cases h
theorem fkd1 {ci k : Nat} (h : fkd ci k = 1) : tyOf ci k = .boolean := by
  unfold fkd at h; split at h <;> first | assumption | cases h
theorem fkd2 {ci k : Nat} (h : fkd ci k = 2) (a : Nat) : narrow (tyOf ci k) (.ref a) = .ref a ∧ fits (tyOf ci k) (.ref a) = true := by
  unfold fkd at h
  split at h
  · cases h
  · cases h
  · next h' => rw [h']; exact ⟨rfl, rfl⟩
  · next h' => rw [h']; exact ⟨rfl, rfl⟩
  · cases h
theorem fkd_le : ∀ ci, ci < 4 → ∀ k, k < nf ci → fkd ci k ≤ 2 := by decide +kernel
theorem def_fv {σ : Mm} {ci k : Nat} (h : fkd ci k ≤ 2) : defaultValue (tyOf ci k) = vm B b (fv (alc σ) σ.1 ci k) := by
  have e1 : (alc σ).2.1 σ.1 k = 0 := by simp [alc, rw2]
  have e2 : (alc σ).2.2.1 σ.1 k = none := by simp [alc, rw2]
  unfold fv
  rw [e1, e2]
  unfold fkd at h ⊢
  split at h
  · next h' => rw [h']; rfl
  · next h' => rw [h']; rfl
  · next h' => rw [h']; rfl
  · next h' => rw [h']; rfl
  · omega
theorem map_set {f g : Nat → Value} {n k : Nat} {v : Value} (hk : g k = v) (hne : ∀ j, j ≠ k → g j = f j) : ((List.range n).map f).set k v = (List.range n).map g := by
  apply List.ext_getElem?
  intro j
  rw [List.getElem?_set]
  by_cases h : k = j
  · subst h
    rw [if_pos rfl]
    by_cases hj : k < n
    · simp [hj, hk]
    · simp [hj]
  · rw [if_neg h]
    by_cases hj : j < n
    · simp [hj, hne j (fun q => h q.symm)]
    · simp [hj]
theorem wd_setI {σ : Mm} {cc ci k : Nat} {x : Int32} (hs : SH cc = (0, ci)) (hf : fkd ci k ≠ 2) : (wd B b dA σ).set cc (B + cc, .inr (ci, ((List.range (nf ci)).map (fun k => vm B b (fv σ cc ci k))).set k (.int x))) = wd B b dA (setI σ cc k x) := by
  refine wd_set rfl ?_ (fun a ha => ent_eq (up2_ne _ _ _ ha) rfl rfl)
  rw [ent_o hs]
  congr 2
  refine (map_set ?_ (fun j hj => ?_)).symm
  · have : fv (setI σ cc k x) cc ci k = .int x := by
      unfold fv
      split
      · exact absurd (by assumption) hf
      · simp [setI, up2]
    rw [this]; rfl
  · exact congrArg _ (fv_eq (by simp [setI, up2, hj]) rfl)
theorem wd_setPo {σ : Mm} {cc ci k a : Nat} (hs : SH cc = (0, ci)) (hf : fkd ci k = 2) : (wd B b dA σ).set cc (B + cc, .inr (ci, ((List.range (nf ci)).map (fun k => vm B b (fv σ cc ci k))).set k (.ref (B + a)))) = wd B b dA (setP σ cc k (some a)) := by
  refine wd_set rfl ?_ (fun a ha => ent_eq rfl (up2_ne _ _ _ ha) rfl)
  rw [ent_o hs]
  congr 2
  refine (map_set ?_ (fun j hj => ?_)).symm
  · have : fv (setP σ cc k (some a)) cc ci k = .ref a := by
      unfold fv
      rw [hf]
      simp [setP, up2, vrf]
    rw [this]; rfl
  · exact congrArg _ (fv_eq rfl (by simp [setP, up2, hj]))
theorem wd_setA {σ : Mm} {cc t k : Nat} {x : Int32} (hs : (SH cc).1 = t) (ht : t = 1 ∨ t = 2 ∨ t = 3) : (wd B b dA σ).set cc (B + cc, .inl (dA t, (SH cc).2, .inl (upd (σ.2.1 cc) k x))) = wd B b dA (setI σ cc k x) := by
  refine wd_set rfl ?_ (fun a ha => ent_eq (up2_ne _ _ _ ha) rfl rfl)
  rw [ent_i hs ht]
  simp only [setI, up2_row]
  rfl
theorem wd_setDd {σ : Mm} {cc k : Nat} {x : UInt64} (hs : (SH cc).1 = 4) : (wd B b dA σ).set cc (B + cc, .inl (dA 4, (SH cc).2, .inr (.inr (.inr (.inl (vf_upd (σ.2.2.2 cc) k x)))))) = wd B b dA (setD σ cc k x) := by
  refine wd_set rfl ?_ (fun a ha => ent_eq rfl rfl (up2_ne _ _ _ ha))
  rw [ent_d hs]
  simp only [setD, up2_row]
  rfl
theorem wd_setQ {σ : Mm} {cc k a : Nat} (hs : (SH cc).1 = 5) : (wd B b dA σ).set cc (B + cc, .inl (dA 5, (SH cc).2, .inr (.inr (.inr (.inr (va_up (fun j => (σ.2.2.1 cc j).map (B + ·)) k (some (B + a)))))))) = wd B b dA (setP σ cc k (some a)) := by
  refine wd_set rfl ?_ (fun a ha => ent_eq rfl (up2_ne _ _ _ ha) rfl)
  rw [ent_q hs]
  refine congrArg (fun f => (Sum.inl (dA 5, (SH cc).2, Sum.inr (Sum.inr (Sum.inr (Sum.inr f)))) : va_E)) ?_
  funext j
  simp only [setP, up2_row, va_up]
  by_cases hj : j = k <;> simp [hj]
theorem wd_cpy {σ : Mm} {c0 sp c1 dp n : Nat} (hs : (SH c1).1 = 1) : (wd B b dA σ).set c1 (B + c1, .inl (dA 1, (SH c1).2, .inl (va_cpy (σ.2.1 c0) (σ.2.1 c1) sp dp n))) = wd B b dA (cpyI σ c0 sp c1 dp n) := by
  refine wd_set rfl ?_ (fun a ha => ent_eq ?_ rfl rfl)
  · rw [ent_i hs (Or.inl rfl)]
    refine congrArg (fun f => (Sum.inl (dA 1, (SH c1).2, Sum.inl f) : va_E)) ?_
    funext j
    simp [cpyI, cp2, va_cpy]
  · funext j
    simp [cpyI, cp2, ha]
theorem alc_row {σ : Mm} : (alc σ).2.1 σ.1 = (fun _ => 0) ∧ (alc σ).2.2.1 σ.1 = (fun _ => none) ∧ (alc σ).2.2.2 σ.1 = (fun _ => 0) := ⟨rw2_row _ _ _, rw2_row _ _ _, rw2_row _ _ _⟩
theorem wd_alc {σ : Mm} {x : va_E} (hx : ent B b dA (alc σ) σ.1 = x) : wd B b dA σ ++ [(B + σ.1, x)] = wd B b dA (alc σ) :=
  wd_push rfl hx (fun a ha => ent_eq (rw2_ne _ _ (Nat.ne_of_lt ha)) (rw2_ne _ _ (Nat.ne_of_lt ha)) (rw2_ne _ _ (Nat.ne_of_lt ha)))
/-- a new cell lies where it must -/
theorem W_new {σ : Mm} {x : va_E} {q : Nat} {H : Heap} {locs : List Loc} {cells slots : Nat} {g : JFrame} (hs : s.heap.size = B + N0) (hc : cells + N0 = σ.1) (hP : va_P (dC, dI) vwCl (wd B b dA σ ++ [(q, x)]) H) (hD : va_D (fun q => B ≤ q) (wd B b dA σ ++ [(q, x)])) (k : q = B + σ.1 → W p l e R s m args below meth c H locs (cells + 1) slots Q g) : W p l e R s m args below meth c H locs (cells + 1) slots Q g := by
  intro T hT X
  refine k ?_ T hT X
  have h1 := X.heapSize
  rw [hT] at h1
  have hq : (wd B b dA σ ++ [(q, x)])[σ.1]? = some (q, x) := by
    rw [List.getElem?_append_right (by rw [wd_len]; exact Nat.le_refl _), wd_len, Nat.sub_self]; rfl
  have h2 := (hP _ _ hq).lt
  have h3 := hD.2 _ _ hq
  dsimp only at h2 h3
  rcases Nat.lt_or_ge q (B + σ.1) with h | h
  · have hk : q - B < σ.1 := by omega
    have h4 : (wd B b dA σ ++ [(q, x)])[q - B]? = some (B + (q - B), ent B b dA σ (q - B)) := by
      rw [List.getElem?_append_left (by rw [wd_len]; exact hk), wd_get hk]
    have h5 := hD.1 _ _ _ _ h4 hq (by dsimp only; omega)
    omega
  · omega
end ST
end
section
/-! SOUNDNESS, all instructions -/
theorem nk_lt (own : Nat) : ∀ e ∈ NK own, e.2 < 4 := by
  match own with
  | 0 => exact (by decide : ∀ e ∈ NK_0, e.2 < 4)
  | 1 => exact (by decide : ∀ e ∈ NK_1, e.2 < 4)
  | 2 => exact (by decide : ∀ e ∈ NK_2, e.2 < 4)
  | 3 => exact (by decide : ∀ e ∈ NK_3, e.2 < 4)
  | 4 => exact (by decide : ∀ e ∈ NK_4, e.2 < 4)
  | 5 => exact (by decide : ∀ e ∈ NK_5, e.2 < 4)
  | 6 => exact (by decide : ∀ e ∈ NK_6, e.2 < 4)
  | k + 7 => exact (by decide : ∀ e ∈ NK_7, e.2 < 4)
abbrev lkInit (e : Nat × Nat × Nat) : Prop := ((e.2.1 = 2 ∨ e.2.1 = 4) → mrt e.2.2 = none ∧ (mnm e.2.2).name = "<init>") ∧ (e.2.1 = 8 → e.2.2 = nJ9_max_7cf53)
set_option maxRecDepth 100000 in
theorem lki_0 : ∀ e ∈ LK_0, lkInit e := by decide +kernel
set_option maxRecDepth 100000 in
theorem lki_1 : ∀ e ∈ LK_1, lkInit e := by decide +kernel
set_option maxRecDepth 100000 in
theorem lki_2 : ∀ e ∈ LK_2, lkInit e := by decide +kernel
set_option maxRecDepth 100000 in
theorem lki_3 : ∀ e ∈ LK_3, lkInit e := by decide +kernel
set_option maxRecDepth 100000 in
theorem lki_4 : ∀ e ∈ LK_4, lkInit e := by decide +kernel
set_option maxRecDepth 100000 in
theorem lki_5 : ∀ e ∈ LK_5, lkInit e := by decide +kernel
set_option maxRecDepth 100000 in
theorem lki_6 : ∀ e ∈ LK_6, lkInit e := by decide +kernel
set_option maxRecDepth 100000 in
theorem lki_7 : ∀ e ∈ LK_7, lkInit e := by decide +kernel
theorem lk_init (own : Nat) : ∀ e ∈ LK own, lkInit e := by
  match own with
  | 0 => exact lki_0
  | 1 => exact lki_1
  | 2 => exact lki_2
  | 3 => exact lki_3
  | 4 => exact lki_4
  | 5 => exact lki_5
  | 6 => exact lki_6
  | k + 7 => exact lki_7
theorem SH_lt : ∀ c, (SH c).1 = 0 → (SH c).2 < 4 := by
  have h : ∀ q ∈ SHL, q.1 = 0 → q.2 < 4 := by decide
  intro c hc
  by_cases hl : c < SHL.length
  · have e : SH c = SHL[c] := by unfold SH; rw [List.getD_eq_getElem?_getD, List.getElem?_eq_getElem hl]; rfl
    rw [e] at hc ⊢
    exact h _ (List.getElem_mem hl) hc
  · have e : SH c = (9, 0) := by unfold SH; rw [List.getD_eq_getElem?_getD, List.getElem?_eq_none (by omega)]; rfl
    rw [e] at hc
    cases hc
theorem cl_some {ci : Nat} (h : ci < 4) : ∃ r, vwCl[ci]? = some r ∧ r.1 = CN ci ∧ nf ci = r.2.2 := by
  have hl : ci < vwCl.length := h
  have e := List.getElem?_eq_getElem hl
  obtain ⟨-, -, -, h4, h5, -⟩ := cl_ok e
  exact ⟨_, e, h4, h5⟩
theorem max_nm : mnm nJ9_max_7cf53 = Lib.Math.max.name ∧ mcd nJ9_max_7cf53 = Lib.Math.max.code ∧ mml nJ9_max_7cf53 = 2 ∧ mrt nJ9_max_7cf53 = some .int := by decide +kernel
section SN
variable {p : Program} {l : Launch} {e : Env} {R : Room} {s : State} {m : MethodId} {args : Array Value} {below : List Frame} {meth : Method} {c : Code} {Q : State → Prop}
variable {B b : Nat} {dC : Nat → ClassId} {dI : Nat → Nat → Nat} {dA : Nat → ClassId} {N0 dd NT y : Nat} {scr : Option (Nat × (Nat → Int32))} {call : Cal} {K : Kn} {Q1 : Option Value → Mm → Prop}
theorem vms_int (r : List Value) (x : Int32) : (Value.int x :: r).map (vm B b) = .int x :: r.map (vm B b) := rfl
theorem link_good {own : String} {ix : Nat} {y : MethodName} : goodWord (Cond.methodLink own ix y) = true := by first | rfl | simp [goodWord, Cond.onTables, Cond.keeps, Cond.steady]
theorem inst_good {y : MethodName} : goodWord (Cond.instanceMethod y) = true := by first | rfl | simp [goodWord, Cond.onTables, Cond.keeps, Cond.steady]
theorem stat_good {y : MethodName} : goodWord (Cond.static y) = true := by first | rfl | simp [goodWord, Cond.onTables, Cond.keeps, Cond.steady]
theorem nat_good {y : MethodName} : goodWord (Cond.native y) = true := by first | rfl | simp [goodWord, Cond.onTables, Cond.keeps, Cond.steady]
theorem sel_good {C : String} {y : MethodName} : goodWord (Cond.selects C y y) = true := by first | rfl | simp [goodWord, Cond.onTables, Cond.keeps, Cond.steady]
theorem init_good {C : String} : goodWord (Cond.initialized C) = true := by first | rfl | simp [goodWord, Cond.onTables, Cond.keeps, Cond.steady]
theorem ocode_good : goodWord (Cond.code objectInit ⟨#[0xb1]⟩ 1 none) = true := by first | rfl | simp [goodWord, Cond.onTables, Cond.keeps, Cond.steady]
theorem fld_good {a : String} {i : Nat} {x y z : String} : goodWord (Cond.fieldLink a i x y z) = true := by first | rfl | simp [goodWord, Cond.onTables, Cond.keeps, Cond.steady]
theorem cst_good {a : String} {i : Nat} {x : Int32} : goodWord (Cond.constant a i x) = true := by first | rfl | simp [goodWord, Cond.onTables, Cond.keeps, Cond.steady]
theorem cstd_good {a : String} {i : Nat} {x : UInt64} : goodWord (Cond.constantDouble a i x) = true := by first | rfl | simp [goodWord, Cond.onTables, Cond.keeps, Cond.steady]
theorem cstf_good {a : String} {i : Nat} {x : UInt32} : goodWord (Cond.constantFloat a i x) = true := by first | rfl | simp [goodWord, Cond.onTables, Cond.keeps, Cond.steady]
theorem cl_good {a C : String} {i : Nat} : goodWord (Cond.classLink a i C) = true := by first | rfl | simp [goodWord, Cond.onTables, Cond.keeps, Cond.steady]
theorem ins_good {C : String} {i : Nat} : goodWord (Cond.instantiable C i) = true := by first | rfl | simp [goodWord, Cond.onTables, Cond.keeps, Cond.steady]
theorem ac_good {t : FieldType} : goodWord (Cond.arrayClass t) = true := rfl
/-- behind a call -/
theorem callG {H : Heap} {locs : List Loc} {cells slots mc ms pc : Nat} {ls : Array Slot} {rest st0 : List Value} {a : Array Value} {r : Option Value} {σ1 : Mm}
    (hr : va_Run p l e R s m args below meth c H locs cells slots mc ms (F0 m pc ls st0) rest (QcG B b dC dI dA r σ1 a) (fun q => B ≤ q)) (hS : va_S (fun q => B ≤ q) s.heap H locs) (hz : H.size ≤ B + σ1.1)
    (kk : ∀ (H1 : Heap) (locs1 : List Loc), va_P (dC, dI) vwCl (wd B b dA σ1) H1 → va_S (fun q => B ≤ q) s.heap H1 locs1 → W p l e R s m args below meth c H1 locs1 (cells + mc) (slots + ms) Q (F0 m (pc + 3) ls ((r.map (vm B b)).toList ++ rest))) : W p l e R s m args below meth c H locs cells slots Q (F0 m pc ls st0) := by
  intro T hT X
  obtain ⟨v, st₀, t, T', L, h0, X', hL, e1, e2, ⟨hv, hz1, hP, hk⟩, st⟩ := hr T hT X
  cases hv
  rw [h0] at hk
  obtain ⟨t2, a1, b1⟩ := kk T'.heap (locs ++ L) (by rw [e1]; exact hP)
    ⟨by rw [e1, hz1]; exact Nat.le_trans hS.1 hz, fun q h1 h2 => by rw [e1, hk q (Nat.not_le.mp h2)]; exact hS.2.1 q h1 h2, fun q hq => by
      rcases List.mem_append.mp hq with h | h
      · exact hS.2.2 q h
      · exact hL q h⟩ T' rfl X'
  exact ⟨t2, st t2 a1, b1⟩
/-- the callee's start, at the caller's world -/
theorem preG {as : List Value} {σ : Mm} {H : Heap} {locs : List Loc} (hsz : H.size = B + σ.1) (hP : va_P (dC, dI) vwCl (wd B b dA σ) H) (hKs : KK dC dI dA s) (hS : va_S (fun q => B ≤ q) s.heap H locs) (hscr : ∀ len xs, scr = some (len, xs) → va_X b len xs s s.heap ∧ b < s.heap.size ∧ b < B) : ∀ U : State, U.heap = H → s.WarmedH U.vm → PcG B b dC dI dA scr as σ (as.map (vm B b)).toArray U :=
  fun U hU hW => ⟨rfl, ⟨by rw [hU]; exact hsz, by rw [hU]; exact hP, KK.warm hW hKs⟩, fun len xs e => by
    obtain ⟨g1, g2, g3⟩ := hscr len xs e
    rw [hU]
    exact ⟨va_X.moved hW.alike (g1.kept (hS.2.1 b g2 (Nat.not_le.mpr g3))), Nat.lt_of_lt_of_le g2 hS.1, g3⟩⟩
set_option maxHeartbeats 4000000 in
set_option maxRecDepth 10000 in
theorem step_snd (hF : FX p l R s m args meth c B b dC dI dA N0 dd NT y scr call)
    (hK : ∀ (pc : Nat) (L : Lc) (st : List Value) (σ : Mm) (H : Heap) (locs : List Loc) (cells slots : Nat) (ls : Array Slot), K pc L st σ → HF B b dC dI dA N0 s σ H locs cells slots → lv_has ls (mml y) (lvm B b L) → W p l e R s m args below meth c H locs cells slots Q (F0 m pc ls (st.map (vm B b))))
    (hQ : ∀ (pc : Nat) (σ : Mm) (H : Heap) (locs : List Loc) (cells slots : Nat) (ls : Array Slot) (v : Option Value), Q1 v σ → RetOk y pc v → HF B b dC dI dA N0 s σ H locs cells slots → W p l e R s m args below meth c H locs cells slots Q (F0 m pc ls (v.toList.map (vm B b))))
    {pc : Nat} {L : Lc} {st : List Value} {σ : Mm} {H : Heap} {locs : List Loc} {cells slots : Nat} {ls : Array Slot} (h : stepP dd NT call scr y K Q1 pc L st σ) (hH : HF B b dC dI dA N0 s σ H locs cells slots) (hl : lv_has ls (mml y) (lvm B b L)) :
    W p l e R s m args below meth c H locs cells slots Q (F0 m pc ls (st.map (vm B b))) := by
  obtain ⟨hx, hb, hml, hown, hini, hyN, hts, hRf, hRl, hRc, hRs, hKs, hhs, hscr, hcall⟩ := hF
  refine W_size hhs hH (fun hsz => ?_)
  obtain ⟨hP, hS, hc, hz⟩ := id hH
  have hD := wd_D (B := B) (b := b) (dA := dA) σ
  have hA : ∀ q : Nat, s.heap.size ≤ q → (fun q => B ≤ q) q := fun q h => by dsimp only; omega
  unfold stepP at h
  cases hT : TB y pc with
  | none => rw [hT] at h; exact h.elim
  | some q =>
  obtain ⟨i, n⟩ := q
  rw [hT] at h
  have hd := TB_ok hyN hT
  cases i <;> first | exact False.elim h | skip
  case aload_n k =>
    obtain ⟨rfl, v, hv, hr, hk⟩ := h
    cases v <;> first | (cases hr; done) | exact lv_aload_n hx hb hd rfl (lv_lk hl hv) (hK _ _ _ _ _ _ _ _ _ hk hH hl)
  case iload_n k => obtain ⟨rfl, v, hv, hk⟩ := h; exact lv_iload_n hx hb hd rfl (lv_lk hl hv) (hK _ _ _ _ _ _ _ _ _ hk hH hl)
  case iload k => obtain ⟨rfl, v, hv, hk⟩ := h; exact lv_iload hx hb hd (lv_lk hl hv) (hK _ _ _ _ _ _ _ _ _ hk hH hl)
  case fload_n k => obtain ⟨rfl, v, hv, hk⟩ := h; exact lv_fload_n hx hb hd rfl (lv_lk hl hv) (hK _ _ _ _ _ _ _ _ _ hk hH hl)
  case dload_n k => obtain ⟨rfl, v, hv, hk⟩ := h; exact lv_dload_n hx hb hd rfl (lv_lk hl hv) (hK _ _ _ _ _ _ _ _ _ hk hH hl)
  case dload k => obtain ⟨rfl, v, hv, hk⟩ := h; exact lv_dload hx hb hd (lv_lk hl hv) (hK _ _ _ _ _ _ _ _ _ hk hH hl)
  case istore_n k => obtain ⟨rfl, hlt, v, r, rfl, hk⟩ := h; exact lv_istore_n hx hb hd rfl hl hlt (st1_vm L k (.int v)) (fun ls' hl' => hK _ _ _ _ _ _ _ _ _ hk hH hl')
  case istore k => obtain ⟨rfl, hlt, v, r, rfl, hk⟩ := h; exact lv_istore hx hb hd hl hlt (st1_vm L k (.int v)) (fun ls' hl' => hK _ _ _ _ _ _ _ _ _ hk hH hl')
  case astore_n k => obtain ⟨rfl, hlt, v, r, rfl, hk⟩ := h; exact lv_astore_n hx hb hd rfl hl hlt (st1_vm L k (.ref v)) (fun ls' hl' => hK _ _ _ _ _ _ _ _ _ hk hH hl')
  case fstore_n k => obtain ⟨rfl, hlt, v, r, rfl, hk⟩ := h; exact lv_fstore_n hx hb hd rfl hl hlt (st1_vm L k (.float v)) (fun ls' hl' => hK _ _ _ _ _ _ _ _ _ hk hH hl')
  case dstore k => obtain ⟨rfl, hlt, v, r, rfl, hk⟩ := h; exact lv_dstore hx hb hd hl hlt (st2_vm L k (.double v)) (fun ls' hl' => hK _ _ _ _ _ _ _ _ _ hk hH hl')
  case iinc k v =>
    obtain ⟨rfl, hlt, x, hv, hk⟩ := h
    obtain ⟨j, hj⟩ := List.getElem?_of_mem (List.mem_map.mpr ⟨(k, .int x), lk_mem hv, rfl⟩ : ((k, Value.int x) : Nat × Value) ∈ lvm B b L)
    exact lv_iinc hx hb hd hl hj rfl hlt (st1_vm L k (.int (x + Int32.ofInt v))) (fun ls' hl' => hK _ _ _ _ _ _ _ _ _ hk hH hl')
  case iconst v => obtain ⟨rfl, hk⟩ := h; exact lv_iconst hx hb hd rfl (hK _ _ _ _ _ _ _ _ _ hk hH hl)
  case bipush v => obtain ⟨rfl, hk⟩ := h; exact lv_bipush hx hb hd rfl (hK _ _ _ _ _ _ _ _ _ hk hH hl)
  case sipush v => obtain ⟨rfl, hk⟩ := h; exact lv_sipush hx hb hd rfl (hK _ _ _ _ _ _ _ _ _ hk hH hl)
  case ldc ix =>
    obtain ⟨rfl, ⟨x, hv, hk⟩ | ⟨x, hv, hk⟩⟩ := h
    · exact lv_ldc hx hb hown (hts _ (mem_WS (cst_in hv) cst_good)) hd (hK _ _ _ _ _ _ _ _ _ hk hH hl)
    · exact lv_ldcf hx hb hown (hts _ (mem_WS (cst_in hv) cstf_good)) hd (hK _ _ _ _ _ _ _ _ _ hk hH hl)
  case ldc_w ix => obtain ⟨rfl, x, hv, hk⟩ := h; exact lv_ldcw hx hb hown (hts _ (mem_WS (cst_in hv) cst_good)) hd (hK _ _ _ _ _ _ _ _ _ hk hH hl)
  case ldc2_w ix => obtain ⟨rfl, x, hv, hk⟩ := h; exact lv_ldc2d hx hb hown (hts _ (mem_WS (cst_in hv) cstd_good)) hd (hK _ _ _ _ _ _ _ _ _ hk hH hl)
  case fconst k =>
    obtain ⟨rfl, ⟨rfl, hk⟩ | ⟨rfl, hk⟩ | ⟨rfl, hk⟩⟩ := h
    · exact lv_fconst0 hx hb hd (hK _ _ _ _ _ _ _ _ _ hk hH hl)
    · exact lv_fconst1 hx hb hd (hK _ _ _ _ _ _ _ _ _ hk hH hl)
    · exact lv_fconst2 hx hb hd (hK _ _ _ _ _ _ _ _ _ hk hH hl)
  case dconst k =>
    obtain ⟨rfl, ⟨rfl, hk⟩ | ⟨rfl, hk⟩⟩ := h
    · exact lv_dconst0 hx hb hd (hK _ _ _ _ _ _ _ _ _ hk hH hl)
    · exact lv_dconst1 hx hb hd (hK _ _ _ _ _ _ _ _ _ hk hH hl)
  case iadd => obtain ⟨rfl, a1, b1, r, rfl, hk⟩ := h; exact lv_iadd hx hb hd (hK _ _ _ _ _ _ _ _ _ hk hH hl)
  case isub => obtain ⟨rfl, a1, b1, r, rfl, hk⟩ := h; exact lv_isub hx hb hd (hK _ _ _ _ _ _ _ _ _ hk hH hl)
  case imul => obtain ⟨rfl, a1, b1, r, rfl, hk⟩ := h; exact lv_imul hx hb hd (hK _ _ _ _ _ _ _ _ _ hk hH hl)
  case irem => obtain ⟨rfl, a1, b1, r, rfl, hne, hk⟩ := h; exact lv_irem hx hb hd hne (hK _ _ _ _ _ _ _ _ _ hk hH hl)
  case ishr => obtain ⟨rfl, a1, b1, r, rfl, hk⟩ := h; exact lv_ishr hx hb hd (hK _ _ _ _ _ _ _ _ _ hk hH hl)
  case iand => obtain ⟨rfl, a1, b1, r, rfl, hk⟩ := h; exact lv_iand hx hb hd (hK _ _ _ _ _ _ _ _ _ hk hH hl)
  case ior => obtain ⟨rfl, a1, b1, r, rfl, hk⟩ := h; exact lv_ior hx hb hd (hK _ _ _ _ _ _ _ _ _ hk hH hl)
  case ixor => obtain ⟨rfl, a1, b1, r, rfl, hk⟩ := h; exact lv_ixor hx hb hd (hK _ _ _ _ _ _ _ _ _ hk hH hl)
  case ishl => obtain ⟨rfl, a1, b1, r, rfl, hk⟩ := h; exact lv_ishl hx hb hd (hK _ _ _ _ _ _ _ _ _ hk hH hl)
  case iushr => obtain ⟨rfl, a1, b1, r, rfl, hk⟩ := h; exact lv_iushr hx hb hd rfl (hK _ _ _ _ _ _ _ _ _ hk hH hl)
  case i2d => obtain ⟨rfl, a1, r, rfl, hk⟩ := h; exact lv_i2d hx hb hd (hK _ _ _ _ _ _ _ _ _ hk hH hl)
  case f2i => obtain ⟨rfl, a1, r, rfl, hk⟩ := h; exact lv_f2i hx hb hd (hK _ _ _ _ _ _ _ _ _ hk hH hl)
  case d2f => obtain ⟨rfl, a1, r, rfl, hn, hk⟩ := h; exact lv_d2f hx hb hd hn (hK _ _ _ _ _ _ _ _ _ hk hH hl)
  case dadd => obtain ⟨rfl, a1, b1, r, rfl, hn, hk⟩ := h; exact lv_dadd hx hb hd hn (hK _ _ _ _ _ _ _ _ _ hk hH hl)
  case ddiv => obtain ⟨rfl, a1, b1, r, rfl, hn, hk⟩ := h; exact lv_ddiv hx hb hd hn (hK _ _ _ _ _ _ _ _ _ hk hH hl)
  case fsub => obtain ⟨rfl, a1, b1, r, rfl, hn, hk⟩ := h; exact lv_fsub hx hb hd hn (hK _ _ _ _ _ _ _ _ _ hk hH hl)
  case fmul => obtain ⟨rfl, a1, b1, r, rfl, hn, hk⟩ := h; exact lv_fmul hx hb hd hn (hK _ _ _ _ _ _ _ _ _ hk hH hl)
  case fdiv => obtain ⟨rfl, a1, b1, r, rfl, hn, hk⟩ := h; exact lv_fdiv hx hb hd hn (hK _ _ _ _ _ _ _ _ _ hk hH hl)
  case fcmp op => obtain ⟨rfl, a1, b1, r, rfl, hk⟩ := h; exact lv_fcmp hx hb hd (hK _ _ _ _ _ _ _ _ _ hk hH hl)
  case dcmp op => obtain ⟨rfl, a1, b1, r, rfl, hk⟩ := h; exact lv_dcmp hx hb hd (hK _ _ _ _ _ _ _ _ _ hk hH hl)
  case dup => obtain ⟨rfl, v, r, rfl, hv, hk⟩ := h; exact lv_dup hx hb hd (by rw [vm_cat]; exact hv) (hK _ _ _ _ _ _ _ _ _ hk hH hl)
  case dup2 => obtain ⟨rfl, v, w, r, rfl, hv, hw, hk⟩ := h; exact lv_dup2_11 hx hb hd (by rw [vm_cat]; exact hv) (by rw [vm_cat]; exact hw) (hK _ _ _ _ _ _ _ _ _ hk hH hl)
  case ifCond q off =>
    obtain ⟨rfl, ht, x, r, rfl, k1, k2⟩ := h
    cases q
    · exact lv_if_eq hx hb hd ht (fun z => hK _ _ _ _ _ _ _ _ _ (k1 z) hH hl) (fun z => hK _ _ _ _ _ _ _ _ _ (k2 z) hH hl)
    · exact lv_if_ne hx hb hd ht (fun z => hK _ _ _ _ _ _ _ _ _ (k1 z) hH hl) (fun z => hK _ _ _ _ _ _ _ _ _ (k2 (by simpa [cnd] using z)) hH hl)
    · exact lv_if_lt hx hb hd ht (fun z => hK _ _ _ _ _ _ _ _ _ (k1 z) hH hl) (fun z => hK _ _ _ _ _ _ _ _ _ (k2 z) hH hl)
    · exact lv_if_ge hx hb hd ht (fun z => hK _ _ _ _ _ _ _ _ _ (k1 z) hH hl) (fun z => hK _ _ _ _ _ _ _ _ _ (k2 (by first | exact z | simpa [cnd] using z)) hH hl)
    · exact lv_if_gt hx hb hd ht (fun z => hK _ _ _ _ _ _ _ _ _ (k1 z) hH hl) (fun z => hK _ _ _ _ _ _ _ _ _ (k2 (by first | exact z | simpa [cnd] using z)) hH hl)
    · exact lv_if_le hx hb hd ht (fun z => hK _ _ _ _ _ _ _ _ _ (k1 z) hH hl) (fun z => hK _ _ _ _ _ _ _ _ _ (k2 (by first | exact z | simpa [cnd] using z)) hH hl)
  case if_icmp q off =>
    obtain ⟨rfl, ht, a1, b1, r, rfl, k1, k2⟩ := h
    cases q
    · exact lv_icmp_eq hx hb hd ht (fun z => hK _ _ _ _ _ _ _ _ _ (k1 z) hH hl) (fun z => hK _ _ _ _ _ _ _ _ _ (k2 z) hH hl)
    · exact lv_icmp_ne hx hb hd ht (fun z => hK _ _ _ _ _ _ _ _ _ (k1 z) hH hl) (fun z => hK _ _ _ _ _ _ _ _ _ (k2 (by simpa [cnd] using z)) hH hl)
    · exact lv_icmp_lt hx hb hd ht (fun z => hK _ _ _ _ _ _ _ _ _ (k1 z) hH hl) (fun z => hK _ _ _ _ _ _ _ _ _ (k2 z) hH hl)
    · exact lv_icmp_ge hx hb hd ht (fun z => hK _ _ _ _ _ _ _ _ _ (k1 z) hH hl) (fun z => hK _ _ _ _ _ _ _ _ _ (k2 (by first | exact z | simpa [cnd] using z)) hH hl)
    · exact lv_icmp_gt hx hb hd ht (fun z => hK _ _ _ _ _ _ _ _ _ (k1 z) hH hl) (fun z => hK _ _ _ _ _ _ _ _ _ (k2 (by first | exact z | simpa [cnd] using z)) hH hl)
    · exact lv_icmp_le hx hb hd ht (fun z => hK _ _ _ _ _ _ _ _ _ (k1 z) hH hl) (fun z => hK _ _ _ _ _ _ _ _ _ (k2 (by first | exact z | simpa [cnd] using z)) hH hl)
  case ifnull off => obtain ⟨rfl, cc, r, rfl, hk⟩ := h; exact lv_ifnull hx hb hd (hK _ _ _ _ _ _ _ _ _ hk hH hl)
  case goto off => obtain ⟨rfl, ht, hk⟩ := h; exact lv_goto hx hb hd ht (hK _ _ _ _ _ _ _ _ _ hk hH hl)
  case tableswitch d lo hi offs =>
    obtain ⟨x, r, rfl, k1, k2⟩ := h
    by_cases hr : x.toInt < lo ∨ hi < x.toInt
    · obtain ⟨ht, hk⟩ := k1 hr
      exact lv_tableOut hx hb hd hr ht (hK _ _ _ _ _ _ _ _ _ hk hH hl)
    · obtain ⟨off, ho, ht, hk⟩ := k2 hr
      exact lv_tableIn hx hb hd (fun z => hr (Or.inl z)) (fun z => hr (Or.inr z)) ho ht (hK _ _ _ _ _ _ _ _ _ hk hH hl)
  case lookupswitch d ps => obtain ⟨ho, x, r, rfl, ht, hk⟩ := h; exact lv_lookup hx hb hd ho rfl ht (hK _ _ _ _ _ _ _ _ _ hk hH hl)
  case ireturn => obtain ⟨rfl, x, rfl, hr, hk⟩ := h; exact hQ _ _ _ _ _ _ _ (some (.int x)) hk ⟨hd, hr⟩ hH
  case dreturn => obtain ⟨rfl, x, rfl, hr, hk⟩ := h; exact hQ _ _ _ _ _ _ _ (some (.double x)) hk ⟨hd, hr⟩ hH
  case return_ => obtain ⟨rfl, rfl, hr, hk⟩ := h; exact hQ _ _ _ _ _ _ _ none hk ⟨hd, hr⟩ hH
  case getfield ix =>
    obtain ⟨rfl, cc, r, ci, k, rfl, hf, hc1, hs, hk, hk2⟩ := h
    obtain ⟨w, hr, hn⟩ := nf_some hk
    obtain ⟨h1, h2, h3, h4, h5, h6, h7⟩ := cl_ok hr
    have hw := fld_in hf
    simp only [wFld, hr] at hw
    exact va_get (D := (dC, dI)) (cl := vwCl) (ci := ci) (C := w.1) (T := w.2.1) (N := w.2.2) hx hb hts h1 hown hKs.1 hP cc (by rw [wd_get hc1, ent_o hs]) hr k (hn ▸ hk) (hts _ (mem_WS hw fld_good)) (fun x hx => by rw [h7 k (hn ▸ hk)] at hx; exact hx) (v := vm B b (fv σ cc ci k)) (by simp [hk]) hd (hK _ _ _ _ _ _ _ _ _ hk2 hH hl)
  case putfield ix =>
    obtain ⟨rfl, v, cc, r, ci, k, rfl, hf, hc1, hs, hk, hfin, hk2⟩ := h
    obtain ⟨w, hr, hn⟩ := nf_some hk
    obtain ⟨h1, h2, h3, h4, h5, h6, h7⟩ := cl_ok hr
    have hw := fld_in hf
    simp only [wFld, hr] at hw
    have hent : (wd B b dA σ)[cc]? = some (B + cc, .inr (ci, (List.range (nf ci)).map (fun k => vm B b (fv σ cc ci k)))) := by rw [wd_get hc1, ent_o hs]
    have key : ∀ (v1 : Value), vm B b v = v1 → narrow (tyOf ci k) v1 = v1 → fits (tyOf ci k) v1 = true → (∀ (H1 : Heap) (locs1 : List Loc), va_P (dC, dI) vwCl ((wd B b dA σ).set cc (B + cc, .inr (ci, ((List.range (nf ci)).map (fun k => vm B b (fv σ cc ci k))).set k v1))) H1 → va_S (fun q => B ≤ q) s.heap H1 locs1 → W p l e R s m args below meth c H1 locs1 cells slots Q (F0 m (pc + 3) ls (r.map (vm B b)))) → W p l e R s m args below meth c H locs cells slots Q (F0 m pc ls ((v :: .ref cc :: r).map (vm B b))) := by
      intro v1 e1 hn1 hf1 kk
      subst e1
      cases hfq : fin ci k with
      | false =>
        exact va_put (D := (dC, dI)) (cl := vwCl) (ci := ci) (C := w.1) (T := w.2.1) (N := w.2.2) hx hb hts h1 (tyOf ci) h2 h3 hown hKs.1 hP hD hS cc hent hr k (hn ▸ hk) (hts _ (mem_WS hw fld_good)) (fun x hx => by rw [h7 k (hn ▸ hk)] at hx; exact hx) (by rw [← h6]; exact hfq) (h2 k (hn ▸ hk)) hn1 hf1 (by simp [hk]) hd (fun H1 locs1 g1 _ g3 => kk H1 locs1 g1 g3)
      | true =>
        obtain ⟨hin, hdc⟩ := hfin hfq
        exact va_putF (D := (dC, dI)) (cl := vwCl) (ci := ci) (C := w.1) (T := w.2.1) (N := w.2.2) hx hb hts h1 (tyOf ci) h2 h3 hown hKs.1 hP hD hS cc hent hr k (hn ▸ hk) (hts _ (mem_WS hw fld_good)) (fun x hx => by rw [h7 k (hn ▸ hk)] at hx; exact hx) (by rw [← h6]; exact hfq) (hini hin) (by rw [h7 k (hn ▸ hk), h4, hdc]) (h2 k (hn ▸ hk)) hn1 hf1 (by simp [hk]) hd (fun H1 locs1 g1 _ g3 => kk H1 locs1 g1 g3)
    rcases hk2 with ⟨x, rfl, hq, hk2⟩ | ⟨x, rfl, hq, hx1, hk2⟩ | ⟨a, rfl, hq, hk2⟩
    · refine key (.int x) rfl (by rw [fkd0 hq]; rfl) (by rw [fkd0 hq]; rfl) (fun H1 locs1 g1 g2 => ?_)
      rw [wd_setI hs (by rw [hq]; decide)] at g1
      exact hK _ _ _ _ _ _ _ _ _ hk2 ⟨g1, g2, hc, hz⟩ hl
    · refine key (.int x) rfl (by rw [fkd1 hq]; rcases hx1 with rfl | rfl <;> rfl) (by rw [fkd1 hq]; rcases hx1 with rfl | rfl <;> rfl) (fun H1 locs1 g1 g2 => ?_)
      rw [wd_setI hs (by rw [hq]; decide)] at g1
      exact hK _ _ _ _ _ _ _ _ _ hk2 ⟨g1, g2, hc, hz⟩ hl
    · refine key (.ref (B + a)) rfl (fkd2 hq _).1 (fkd2 hq _).2 (fun H1 locs1 g1 g2 => ?_)
      rw [wd_setPo hs hq] at g1
      exact hK _ _ _ _ _ _ _ _ _ hk2 ⟨g1, g2, hc, hz⟩ hl
  case iaload =>
    obtain ⟨rfl, ⟨i, cc, r, rfl, hc1, hs, hin, hk⟩ | ⟨i, a, r, len, xs, rfl, hsc, hin, hk⟩⟩ := h
    · exact va_iald hx hb hKs.1 hP cc 0 (by rw [wd_get hc1, ent_i hs (Or.inl rfl)]) rfl hin hd (hK _ _ _ _ _ _ _ _ _ hk hH hl)
    · obtain ⟨g1, g2, g3⟩ := hscr len xs hsc
      exact va_sld hx hb g1 g2 (Nat.not_le.mpr g3) hS hin hd (hK _ _ _ _ _ _ _ _ _ hk hH hl)
  case arraylength =>
    obtain ⟨rfl, a, r, len, xs, rfl, hsc, hk⟩ := h
    obtain ⟨g1, g2, g3⟩ := hscr len xs hsc
    exact va_slen hx hb g1 g2 (Nat.not_le.mpr g3) hS hd (hK _ _ _ _ _ _ _ _ _ hk hH hl)
  case aaload =>
    obtain ⟨rfl, i, cc, r, rfl, hc1, hs, hin, hk⟩ := h
    have h9 := hK _ _ _ _ _ _ _ _ _ hk hH hl
    rw [List.map_cons, vm_vrf] at h9
    exact va_aldq hx hb hKs.1 hP cc 2 (by rw [wd_get hc1, ent_q hs]) rfl hin hd h9
  case iastore =>
    obtain ⟨rfl, x, i, cc, r, rfl, hc1, hs, hin, hk⟩ := h
    refine va_iast hx hb hKs.1 hP hD hS cc 0 (by rw [wd_get hc1, ent_i hs (Or.inl rfl)]) rfl hin hd (fun H1 locs1 g1 _ g3 => ?_)
    rw [wd_setA hs (Or.inl rfl)] at g1
    exact hK _ _ _ _ _ _ _ _ _ hk ⟨g1, g3, hc, hz⟩ hl
  case aastore =>
    obtain ⟨rfl, a, i, cc, r, rfl, hc1, hs, hin, ha, hsa, hk⟩ := h
    refine va_astq hx hb hKs.1 hP hD hS cc 2 a 2 (r := (RX2, TX2, 15)) (by rw [wd_get hc1, ent_q hs]) rfl (by rw [wd_get ha, ent_o hsa]) rfl hin hd (fun H1 locs1 g1 _ g3 => ?_)
    rw [wd_setQ hs] at g1
    exact hK _ _ _ _ _ _ _ _ _ hk ⟨g1, g3, hc, hz⟩ hl
  case newarray t =>
    obtain ⟨rfl, z, r, rfl, ht, hsh, hneg, hsmall, hNT, hk⟩ := h
    have hszc : szc σ.1 = z.toNatClampNeg := by
      unfold szc; rw [hsh]
      cases t <;> first | rfl | (exfalso; revert ht; decide)
    have hcl : cells + 1 ≤ R.cells := by omega
    have hsl : slots + z.toNatClampNeg ≤ R.slots := by
      have h1 := SZ_mono (show σ.1 + 1 ≤ NT from hNT)
      rw [SZ_succ, hszc] at h1
      omega
    have hfin : HF B b dC dI dA N0 s (alc σ) H locs (cells + 1) (slots + z.toNatClampNeg) ∨ True := Or.inr trivial
    have hct : cells + 1 + N0 = (alc σ).1 := by show _ = σ.1 + 1; omega
    have hst : slots + z.toNatClampNeg + SZ N0 = SZ (alc σ).1 := by show _ = SZ (σ.1 + 1); rw [SZ_succ, hszc]; omega
    have key : ∀ (ty : FieldType) (k : Nat) (a0 : vp_A), newarray.typeOf t = ty → (Cond.arrayClass ty).before args s = true → (∀ cA : ClassId, vp_cell cA a0 = arrV cA z.toNatClampNeg (fun _ => defaultValue ty)) → z.toNatClampNeg * componentBytes ty ≤ 536870912 → (∀ cA, va_RA s cA ty → cA = dA k) → ent B b dA (alc σ) σ.1 = .inl (dA k, a0) → W p l e R s m args below meth c H locs cells slots Q (F0 m pc ls ((.int z :: r).map (vm B b))) := by
      intro ty k a0 hty harr ha hby hra hen
      subst hty
      refine va_newa hx hb harr rfl hKs.1 hP hD hS hA ha hneg rfl hby hcl hsl hd (fun q cA H1 gK gP gD gS => ?_)
      refine W_new hhs hc gP gD (fun hq => ?_)
      subst hq
      have hcA := hra cA (gK.2 3 (cA, newarray.typeOf t) rfl).2
      subst hcA
      rw [wd_alc hen] at gP
      exact hK _ _ _ _ _ _ _ _ _ hk ⟨gP, gS, hct, hst⟩ hl
    cases t <;> first | (exfalso; revert ht; decide) | skip
    · exact key .char 2 (z.toNatClampNeg, .inl (fun _ => 0)) rfl (hts _ (mem_WS (in_X (by decide)) ac_good)) (fun cA => rfl) (by show _ * 2 ≤ _; omega) (fun cA hc => Option.some.inj (hc.symm.trans (hKs.1.2 1 _ rfl).2)) (by rw [ent_i (t := 2) (by rw [hsh]; rfl) (Or.inr (Or.inl rfl)), hsh, alc_row.1])
    · exact key .int 1 (z.toNatClampNeg, .inl (fun _ => 0)) rfl (hts _ (mem_WS (in_X (by decide)) ac_good)) (fun cA => rfl) (by show _ * 4 ≤ _; omega) (fun cA hc => Option.some.inj (hc.symm.trans (hKs.1.2 0 _ rfl).2)) (by rw [ent_i (t := 1) (by rw [hsh]; rfl) (Or.inl rfl), hsh, alc_row.1])
  case anewarray ix =>
    obtain ⟨rfl, z, r, rfl, hnw, hsh, hneg, hsmall, hNT, hk⟩ := h
    have hszc : szc σ.1 = z.toNatClampNeg := by unfold szc; rw [hsh]; rfl
    have hcl : cells + 1 ≤ R.cells := by omega
    have hsl : slots + z.toNatClampNeg ≤ R.slots := by
      have h1 := SZ_mono (show σ.1 + 1 ≤ NT from hNT)
      rw [SZ_succ, hszc] at h1
      omega
    have hct : cells + 1 + N0 = (alc σ).1 := by show _ = σ.1 + 1; omega
    have hst : slots + z.toNatClampNeg + SZ N0 = SZ (alc σ).1 := by show _ = SZ (σ.1 + 1); rw [SZ_succ, hszc]; omega
    have hw := nwc_in hnw (.classLink (CN (mown y)) ix RX2) List.mem_cons_self
    refine va_newq hx hb hown (hts _ (mem_WS hw cl_good)) hKs.2.1 hKs.1 hP hD hS hA hneg rfl (by omega) hcl hsl hd (fun q cA H1 gK gP gD gS => ?_)
    refine W_new hhs hc gP gD (fun hq => ?_)
    subst hq
    have hcA : cA = dA 5 := by
      obtain ⟨_, _, _, _, _, e1⟩ := (gK.2 3 (cA, .object RX2) rfl).2
      obtain ⟨_, _, _, _, _, e2⟩ := (hKs.1.2 2 (dA 5, .object RX2) rfl).2
      exact Option.some.inj (e1.symm.trans e2)
    subst hcA
    rw [wd_alc (by rw [ent_q (by rw [hsh]), hsh, alc_row.2.1]; rfl)] at gP
    exact hK _ _ _ _ _ _ _ _ _ hk ⟨gP, gS, hct, hst⟩ hl
  case new ix =>
    obtain ⟨rfl, ci, hnw, hsh, hNT, hk⟩ := h
    obtain ⟨w, hw, hwn, hn⟩ := cl_some (nk_lt _ _ (find_in hnw))
    obtain ⟨h1, h2, h3, h4, h5, h6, h7⟩ := cl_ok hw
    have hci : ci < 4 := nk_lt _ _ (find_in hnw)
    have hwd := nwc_in hnw
    simp only [wNew, hw] at hwd
    have hszc : szc σ.1 = w.2.2 := by unfold szc; rw [hsh]; exact hn
    have hcl : cells + 1 ≤ R.cells := by omega
    have hsl : slots + w.2.2 ≤ R.slots := by
      have h1 := SZ_mono (show σ.1 + 1 ≤ NT from hNT)
      rw [SZ_succ, hszc] at h1
      omega
    have hct : cells + 1 + N0 = (alc σ).1 := by show _ = σ.1 + 1; omega
    have hst : slots + w.2.2 + SZ N0 = SZ (alc σ).1 := by show _ = SZ (σ.1 + 1); rw [SZ_succ, hszc]; omega
    refine va_new (D := (dC, dI)) (cl := vwCl) (ci := ci) (C := w.1) (T := w.2.1) (N := w.2.2) (fs := (List.range (nf ci)).map (fun k => vm B b (fv (alc σ) σ.1 ci k))) hx hb hts h1 (tyOf ci) h2 hown (hts _ (mem_WS (hwd _ List.mem_cons_self) cl_good)) (hts _ (mem_WS (hwd _ (List.mem_cons_of_mem _ List.mem_cons_self)) ins_good)) (hts _ (mem_WS (by rw [hwn]; exact in_init (by omega)) init_good)) hKs.1 hP hD hS hA hw (fun j hj => ?_) hcl hsl hd (fun q H1 gP gD gS => ?_)
    · rw [def_fv (B := B) (b := b) (σ := σ) (fkd_le ci hci j (hn ▸ hj))]
      simp [vp_V, hn, hj]
    · refine W_new hhs hc gP gD (fun hq => ?_)
      subst hq
      rw [wd_alc (ent_o hsh)] at gP
      exact hK _ _ _ _ _ _ _ _ _ hk ⟨gP, gS, hct, hst⟩ hl
  case invokevirtual ix =>
    obtain ⟨rfl, y1, as, cc, r, v, σ1, hlk, rfl, hlen, hc1, hs, hst, hcl, hN1, hk⟩ := h
    obtain ⟨hmono, hy1, d, hdd, hM⟩ := hcall _ _ _ _ _ hcl
    obtain ⟨f1, f2, f3, f4, f5⟩ := mt_facts y1 (Nat.lt_trans hy1 (by decide))
    have hw := lnk_in hlk
    obtain ⟨w, hwc, hwn, -⟩ := cl_some (show mown y1 < 4 by have := SH_lt cc (by rw [hs]); rw [hs] at this; exact this)
    have hSZ := SZ_mono hmono
    have hSZ2 := SZ_mono hN1
    have cb : CallB R s args (CN (mown y)) ix (mnm y1) (mcd y1) (mml y1) (mrt y1) (wsG y1) ({ frames := d, cells := σ1.1 - σ.1, slots := SZ σ1.1 - SZ σ.1, locals := 35 * d }) (σ1.1 - σ.1) (SZ σ1.1 - SZ σ.1) (mna y1) :=
      callB_of (mna y1) hts (wsG_in hy1) rfl rfl rfl (by rw [f1]; exact hts _ (mem_WS (in_init f5) init_good)) (hts _ (mem_WS (hw _ List.mem_cons_self) link_good)) f3 (show d + 1 ≤ R.frames ∧ 8 + (mml y1 + 11) + 35 * d ≤ R.locals by omega)
    rw [List.map_append, List.map_reverse, List.map_cons]
    refine callG (rest := r.map (vm B b)) (va_runV (C := (mnm y1).cls) (own := CN (mown y)) (b := B + cc) (As := as.map (vm B b)) (rest := r.map (vm B b)) ⟨hx, hb, hml, hown, hts⟩ hM ⟨cb, hts _ (mem_WS (hw _ (List.mem_cons_of_mem _ List.mem_cons_self)) inst_good), hts _ (mem_WS (hw _ (List.mem_cons_of_mem _ (List.mem_cons_of_mem _ List.mem_cons_self))) sel_good)⟩ ⟨PcG_blind, ?_, preG hsz hP hKs hS hscr⟩ rfl (by rw [List.length_map]; exact hlen) hl.1 rfl (lv_room (by rw [stw_vm]; exact hst)) hd ⟨by omega, by omega⟩) hS (by omega) (fun H1 locs1 g1 g2 => ?_)
    · rw [f1, ← hwn]
      exact va_recv hKs.1 hP hwc (by rw [wd_get hc1, ent_o hs])
    · have h9 := hK _ _ _ _ _ _ _ _ _ hk (⟨g1, g2, by omega, by omega⟩ : HF B b dC dI dA N0 s σ1 H1 locs1 (cells + (σ1.1 - σ.1)) (slots + (SZ σ1.1 - SZ σ.1))) hl
      cases v <;> exact h9
  case invokestatic ix =>
    obtain ⟨rfl, ⟨y1, as, r, v, σ1, kd, hlk, hkd, rfl, hlen, hst, hcl, hN1, hk⟩ | ⟨z, dp, c1, sp, c0, r, hlk, rfl, hst, hdd, hc0, hc1, hs0, hs1, q1, q2, q3, q4, q5, hk⟩ | ⟨a, b1, r, y1, hlk, rfl, hst, hdd, hnt, hk⟩⟩ := h
    · obtain ⟨hmono, hy1, d, hdd, hM⟩ := hcall _ _ _ _ _ hcl
      obtain ⟨f1, f2, f3, f4, f5⟩ := mt_facts y1 (Nat.lt_trans hy1 (by decide))
      have hw := lnk_in hlk
      have hSZ := SZ_mono hmono
      have hSZ2 := SZ_mono hN1
      rw [List.map_append, List.map_reverse]
      have fin : ∀ (H1 : Heap) (locs1 : List Loc), va_P (dC, dI) vwCl (wd B b dA σ1) H1 → va_S (fun q => B ≤ q) s.heap H1 locs1 → W p l e R s m args below meth c H1 locs1 (cells + (σ1.1 - σ.1)) (slots + (SZ σ1.1 - SZ σ.1)) Q (F0 m (pc + 3) ls ((v.map (vm B b)).toList ++ r.map (vm B b))) := by
        intro H1 locs1 g1 g2
        have h9 := hK _ _ _ _ _ _ _ _ _ hk (⟨g1, g2, by omega, by omega⟩ : HF B b dC dI dA N0 s σ1 H1 locs1 (cells + (σ1.1 - σ.1)) (slots + (SZ σ1.1 - SZ σ.1))) hl
        cases v <;> exact h9
      rcases hkd with rfl | rfl
      · have cb : CallB R s args (CN (mown y)) ix (mnm y1) (mcd y1) (mml y1) (mrt y1) (wsG y1) ({ frames := d, cells := σ1.1 - σ.1, slots := SZ σ1.1 - SZ σ.1, locals := 35 * d }) (σ1.1 - σ.1) (SZ σ1.1 - SZ σ.1) (mna y1) :=
          callB_of (mna y1) hts (wsG_in hy1) rfl rfl rfl (by rw [f1]; exact hts _ (mem_WS (in_init f5) init_good)) (hts _ (mem_WS (hw _ List.mem_cons_self) link_good)) f3 (show d + 1 ≤ R.frames ∧ 8 + (mml y1 + 11) + 35 * d ≤ R.locals by omega)
        exact callG (rest := r.map (vm B b)) (va_runS (own := CN (mown y)) (As := as.map (vm B b)) (rest := r.map (vm B b)) ⟨hx, hb, hml, hown, hts⟩ hM ⟨cb, hts _ (mem_WS (hw _ (List.mem_cons_of_mem _ List.mem_cons_self)) stat_good)⟩ ⟨PcG_blind, preG hsz hP hKs hS hscr⟩ rfl (by rw [List.length_map]; exact hlen) hl.1 rfl (lv_room (by rw [stw_vm]; exact hst)) hd ⟨by omega, by omega⟩) hS (by omega) fin
      · have cb : va_CN R s args (CN (mown y)) ix (mnm y1) RX3 (mcd y1) (mml y1) (mrt y1) (wsG y1) ({ frames := d, cells := σ1.1 - σ.1, slots := SZ σ1.1 - SZ σ.1, locals := 35 * d }) (σ1.1 - σ.1) (SZ σ1.1 - SZ σ.1) (mna y1) :=
          va_cnB (mna y1) hts (wsG_in hy1) rfl rfl rfl (hKs.2.2 _ (NST_in (mt_facts y hyN).2.2.2.2 hlk (Or.inl rfl))) (by rw [f1]; exact hts _ (mem_WS (in_init f5) init_good)) f3 (show d + 1 ≤ R.frames ∧ 8 + (mml y1 + 11) + 35 * d ≤ R.locals by omega)
        exact callG (rest := r.map (vm B b)) (va_runSN (own := CN (mown y)) (As := as.map (vm B b)) (rest := r.map (vm B b)) ⟨hx, hb, hml, hown, hts⟩ hM ⟨cb, hts _ (mem_WS (hw _ (List.mem_cons_of_mem _ List.mem_cons_self)) stat_good), trivial⟩ ⟨PcG_blind, preG hsz hP hKs hS hscr⟩ rfl (by rw [List.length_map]; exact hlen) hl.1 rfl (lv_room (by rw [stw_vm]; exact hst)) hd ⟨by omega, by omega⟩) hS (by omega) fin
    · have hw := lnk_in hlk
      have hnw : nativeFrameWords "java/lang/System" "arraycopy" 5 + 11 ≤ 27 := by decide
      refine va_copyi hx hb (hml.trans hl.1.symm) hown (hts _ (mem_WS (hw _ List.mem_cons_self) link_good)) (hts _ (mem_WS (hw _ (List.mem_cons_of_mem _ List.mem_cons_self)) nat_good)) (hts _ (mem_WS (hw _ (List.mem_cons_of_mem _ (List.mem_cons_of_mem _ List.mem_cons_self))) stat_good)) (hts _ (mem_WS (in_init (c := 6) (by decide)) init_good)) hKs.1 hP hD hS c0 c1 0 0 (by rw [wd_get hc0, ent_i hs0 (Or.inl rfl)]) (by rw [wd_get hc1, ent_i hs1 (Or.inl rfl)]) rfl rfl rfl q1 q2 q3 q4 q5 (fun _ _ => rfl) (by omega) (by rw [stw_vm]; omega) hd (fun H1 locs1 g1 _ g3 => ?_)
      rw [wd_cpy hs1] at g1
      exact hK _ _ _ _ _ _ _ _ _ hk ⟨g1, g3, hc, hz⟩ hl
    · have hw := lnk_in hlk
      have hy1 : y1 = nJ9_max_7cf53 := (lk_init _ _ (find_in hlk)).2 rfl
      subst hy1
      obtain ⟨m1, m2, m3, m4⟩ := max_nm
      have hcode := mt_word (y := nJ9_max_7cf53) (by decide)
      rw [m1, m2, m3, m4] at hcode
      have hl1 := hw _ List.mem_cons_self
      have hl2 := hw _ (List.mem_cons_of_mem _ List.mem_cons_self)
      dsimp only at hl1 hl2
      rw [m1] at hl1 hl2
      exact va_mmax hx hb (hml.trans hl.1.symm) hown (hts _ (mem_WS hl1 link_good)) (hts _ (mem_WS hl2 stat_good)) (hts _ (mem_WS (in_init (c := 5) (by decide)) init_good)) (hts _ (mem_WS hcode (by first | rfl | simp [goodWord, Cond.onTables, Cond.keeps, Cond.steady]))) (by omega) (by rw [stw_vm]; omega) (by omega) (by have := SZ_mono hnt; omega) hd (hK _ _ _ _ _ _ _ _ _ hk hH hl)
  case invokespecial ix =>
    obtain ⟨rfl, ⟨y1, as, cc, r, σ1, kd, hlk, hkd, rfl, hlen, hst, hcl, hN1, hk⟩ | ⟨cc, r, hlk, rfl, hst, hdd, hk⟩⟩ := h
    · obtain ⟨hmono, hy1, d, hdd, hM⟩ := hcall _ _ _ _ _ hcl
      obtain ⟨f1, f2, f3, f4, f5⟩ := mt_facts y1 (Nat.lt_trans hy1 (by decide))
      have hw := lnk_in hlk
      have hSZ := SZ_mono hmono
      have hSZ2 := SZ_mono hN1
      obtain ⟨hr0, hnm1⟩ := (lk_init _ _ (find_in hlk)).1 (by rcases hkd with rfl | rfl <;> simp)
      dsimp only at hr0 hnm1
      rw [List.map_append, List.map_reverse, List.map_cons]
      have fin : ∀ (H1 : Heap) (locs1 : List Loc), va_P (dC, dI) vwCl (wd B b dA σ1) H1 → va_S (fun q => B ≤ q) s.heap H1 locs1 → W p l e R s m args below meth c H1 locs1 (cells + (σ1.1 - σ.1)) (slots + (SZ σ1.1 - SZ σ.1)) Q (F0 m (pc + 3) ls (((none : Option Value).map (vm B b)).toList ++ r.map (vm B b))) := by
        intro H1 locs1 g1 g2
        exact hK _ _ _ _ _ _ _ _ _ hk (⟨g1, g2, by omega, by omega⟩ : HF B b dC dI dA N0 s σ1 H1 locs1 (cells + (σ1.1 - σ.1)) (slots + (SZ σ1.1 - SZ σ.1))) hl
      rcases hkd with rfl | rfl
      · have cb : CallB R s args (CN (mown y)) ix (mnm y1) (mcd y1) (mml y1) none (wsG y1) ({ frames := d, cells := σ1.1 - σ.1, slots := SZ σ1.1 - SZ σ.1, locals := 35 * d }) (σ1.1 - σ.1) (SZ σ1.1 - SZ σ.1) (mna y1) :=
          callB_of (mna y1) hts (wsG_in hy1) (by unfold wsG; rw [hr0]) rfl rfl (by rw [f1]; exact hts _ (mem_WS (in_init f5) init_good)) (hts _ (mem_WS (hw _ List.mem_cons_self) link_good)) f3 (show d + 1 ≤ R.frames ∧ 8 + (mml y1 + 11) + 35 * d ≤ R.locals by omega)
        exact callG (rest := r.map (vm B b)) (va_runI (own := CN (mown y)) (b := B + cc) (As := as.map (vm B b)) (rest := r.map (vm B b)) ⟨hx, hb, hml, hown, hts⟩ hM ⟨cb, hnm1, hts _ (mem_WS (hw _ (List.mem_cons_of_mem _ List.mem_cons_self)) inst_good)⟩ ⟨PcG_blind, preG hsz hP hKs hS hscr⟩ rfl (by rw [List.length_map]; exact hlen) hl.1 rfl (lv_room (by rw [stw_vm]; exact hst)) hd ⟨by omega, by omega⟩) hS (by omega) fin
      · have cb : va_CN R s args (CN (mown y)) ix (mnm y1) RX3 (mcd y1) (mml y1) none (wsG y1) ({ frames := d, cells := σ1.1 - σ.1, slots := SZ σ1.1 - SZ σ.1, locals := 35 * d }) (σ1.1 - σ.1) (SZ σ1.1 - SZ σ.1) (mna y1) :=
          va_cnB (mna y1) hts (wsG_in hy1) (by unfold wsG; rw [hr0]) rfl rfl (hKs.2.2 _ (NST_in (mt_facts y hyN).2.2.2.2 hlk (Or.inr rfl))) (by rw [f1]; exact hts _ (mem_WS (in_init f5) init_good)) f3 (show d + 1 ≤ R.frames ∧ 8 + (mml y1 + 11) + 35 * d ≤ R.locals by omega)
        exact callG (rest := r.map (vm B b)) (va_runIN (own := CN (mown y)) (b := B + cc) (As := as.map (vm B b)) (rest := r.map (vm B b)) ⟨hx, hb, hml, hown, hts⟩ hM ⟨cb, hnm1, hts _ (mem_WS (hw _ (List.mem_cons_of_mem _ List.mem_cons_self)) inst_good)⟩ ⟨PcG_blind, preG hsz hP hKs hS hscr⟩ rfl (by rw [List.length_map]; exact hlen) hl.1 rfl (lv_room (by rw [stw_vm]; exact hst)) hd ⟨by omega, by omega⟩) hS (by omega) fin
    · have hw := lnk_in hlk
      refine W.objInit hx hb hown (hts _ (mem_WS (hw _ List.mem_cons_self) link_good)) (hts _ (mem_WS (hw _ (List.mem_cons_of_mem _ List.mem_cons_self)) inst_good)) (hts _ (mem_WS (in_X (by decide)) ocode_good)) rfl (hl.1.trans hml.symm) rfl hd (by omega) ?_ (hK _ _ _ _ _ _ _ _ _ hk hH hl)
      show 2 * 0 + _ + 12 ≤ _
      rw [stw_vm]
      omega
end SN
end
section
/-! SOUNDNESS: a run, a call -/
section EX
variable {p : Program} {l : Launch} {e : Env} {R : Room} {s : State} {m : MethodId} {args : Array Value} {below : List Frame} {meth : Method} {c : Code} {Q : State → Prop}
variable {B b : Nat} {dC : Nat → ClassId} {dI : Nat → Nat → Nat} {dA : Nat → ClassId} {N0 dd NT y : Nat} {scr : Option (Nat × (Nat → Int32))} {call : Cal} {Q1 : Option Value → Mm → Prop}
theorem run_snd (hF : FX p l R s m args meth c B b dC dI dA N0 dd NT y scr call)
    (hQ : ∀ (pc : Nat) (σ : Mm) (H : Heap) (locs : List Loc) (cells slots : Nat) (ls : Array Slot) (v : Option Value), Q1 v σ → RetOk y pc v → HF B b dC dI dA N0 s σ H locs cells slots → W p l e R s m args below meth c H locs cells slots Q (F0 m pc ls (v.toList.map (vm B b)))) :
    ∀ (n pc : Nat) (L : Lc) (st : List Value) (σ : Mm) (H : Heap) (locs : List Loc) (cells slots : Nat) (ls : Array Slot), runP dd NT call scr y Q1 n pc L st σ → HF B b dC dI dA N0 s σ H locs cells slots → lv_has ls (mml y) (lvm B b L) → W p l e R s m args below meth c H locs cells slots Q (F0 m pc ls (st.map (vm B b)))
  | 0, _, _, _, _, _, _, _, _, _, h, _, _ => h.elim
  | n + 1, _, _, _, _, _, _, _, _, _, h, hH, hl => step_snd hF (run_snd hF hQ n) hQ h hH hl
theorem lv_args_vm : ∀ (i : Nat) (as : List Value), lv_args i (as.map (vm B b)) = lvm B b (lv_args i as)
  | _, [] => rfl
  | i, v :: vs => by
    show (i, vm B b v) :: lv_args (if (vm B b v).category = 2 then i + 2 else i + 1) (vs.map (vm B b)) = (i, vm B b v) :: lvm B b (lv_args (if v.category = 2 then i + 2 else i + 1) vs)
    rw [vm_cat, lv_args_vm]
theorem lg_len : ∀ (vs : List Value), (lg_sl vs).length = stw vs
  | [] => rfl
  | v :: vs => by
    have h := lg_len vs
    unfold lg_sl stw at h ⊢
    rw [List.flatMap_cons, List.length_append, List.map_cons, List.sum_cons, h]
    congr 1
    cases v <;> rfl
theorem exec_met : ∀ (d : Nat) (y : Nat) (as : List Value) (σ : Mm) (r : Option Value) (σ1 : Mm), ExecS scr d y as σ r σ1 → σ.1 ≤ σ1.1 ∧ y < yLAW ∧ ∃ d1, d1 + 1 ≤ d ∧ CT l B b dC dI dA scr d1 y as σ r σ1
  | 0, _, _, _, _, _, h => h.elim
  | d + 1, y, as, σ, r, σ1, ⟨hm, hy, hw, n, hrun⟩ => by
    refine ⟨hm, hy, d, Nat.le_refl _, ?_⟩
    have hyN : y < NM := Nat.lt_trans hy (by decide)
    obtain ⟨f1, f2, f3, f4, f5⟩ := mt_facts y hyN
    refine va_MetF (cc := mcd y) (maxL := mml y) (ret := mrt y) (ws' := WS) f2 rfl ?_
    intro p e s m args below meth c s₁ BB hml hv
    obtain ⟨rfl, ⟨hsz, hP, hK⟩, hsc⟩ := hv
    have hts : ∀ w ∈ wsG y, w.before (as.map (vm B b)).toArray s = true := atoms_spec (ws := wsG y) BB.pre
    have hown : s.vm.findClass (CN (mown y)) = some m.cls := by rw [← f1]; exact findClass_of_methodNamed BB.named
    have hl := lv_entry (as.map (vm B b)) (n := mml y) (by rw [lg_len]; unfold stw; rw [stw_vm]; exact hw)
    rw [lg_entry_eq]
    generalize (lg_sl (as.map (vm B b)) ++ List.replicate (mml y - (lg_sl (as.map (vm B b))).length) Slot.unset).toArray = ls at hl ⊢
    rw [lv_args_vm] at hl
    have hSZ := SZ_mono hm
    have hF : FX p l ({ frames := d, cells := σ1.1 - σ.1, slots := SZ σ1.1 - SZ σ.1, locals := 35 * d } : Room) s m (as.map (vm B b)).toArray meth c B b dC dI dA σ.1 d σ1.1 y scr (ExecS scr d) :=
      ⟨BB.exec, BB.bytes, hml, hown, fun h => (name_of_methodNamed BB.named BB.method).1.trans h, hyN, fun w hw => hts w (List.mem_cons_of_mem _ hw), Nat.le_refl _, Nat.le_refl _, by show σ1.1 ≤ σ.1 + (σ1.1 - σ.1); omega, by show SZ σ1.1 ≤ SZ σ.1 + (SZ σ1.1 - SZ σ.1); omega, hK, hsz, hsc, fun y1 as1 σ2 v σ3 h => exec_met d y1 as1 σ2 v σ3 h⟩
    have hH : HF B b dC dI dA σ.1 s σ s.heap [] 0 0 := ⟨hP, va_S.rf, Nat.zero_add _, Nat.zero_add _⟩
    refine run_snd hF ?_ n 0 (lv_args 0 as) [] σ s.heap [] 0 0 ls hrun hH hl
    rintro pc σ2 H locs cells slots ls2 v ⟨rfl, rfl⟩ hret hH2
    refine W_size hsz hH2 (fun hsz2 => ?_)
    obtain ⟨hP2, hS2, hc2, hs2⟩ := hH2
    have e1 : σ2.1 - σ.1 = cells := by omega
    have e2 : SZ σ2.1 - SZ σ.1 = slots := by omega
    rw [e1, e2]
    have hq : ∀ t : State, t.heap = H → s.WarmedH t.vm → QcG B b dC dI dA v σ2 (as.map (vm B b)).toArray s (.returned (v.map (vm B b))) t := fun t ht _ => ⟨rfl, by rw [ht]; exact hsz2, by rw [ht]; exact hP2, fun q hq => by rw [ht]; exact hS2.2.1 q (by omega) (Nat.not_le.mpr hq)⟩
    match v, hret, hq with
    | none, hret, hq => exact W.vret BB.exec BB.bytes (BB.returns.trans hret.2) hq hS2.2.2 hret.1 BB.notSynchronized
    | some (.int x), hret, hq =>
      rcases hret.2 with hi | ⟨hb, h01⟩
      · exact W.iret BB.exec BB.bytes (BB.returns.trans hi) hq hS2.2.2 hret.1 BB.notSynchronized
      · exact W.zret (ty := .boolean) BB.exec BB.bytes (BB.returns.trans hb) (by rcases h01 with rfl | rfl <;> rfl) hq hS2.2.2 hret.1 BB.notSynchronized
    | some (.double x), hret, hq => exact W.dret BB.exec BB.bytes (BB.returns.trans hret.2) hq hS2.2.2 hret.1 BB.notSynchronized
    | some (.long x), hret, hq => exact hret.elim
    | some (.float x), hret, hq => exact hret.elim
    | some .null, hret, hq => exact hret.elim
    | some (.ref x), hret, hq => exact hret.elim
    | some (.retAddr x), hret, hq => exact hret.elim
end EX
end
section
/-! THE CONSTRUCTORS, by computing: an executable step for their instructions -/
/-- what comes behind a step: a point to go on from, or an answer -/
abbrev Nx : Type := (Nat × Lc × List Value × Mm) ⊕ (Option Value × Mm)
def stepE (dd : Nat) (call : Nat → List Value → Mm → Option (Option Value × Mm)) (y pc : Nat) (L : Lc) (st : List Value) (σ : Mm) : Option Nx :=
  match TB y pc with
  | none => none
  | some (i, n) => match i with
    | .aload_n k => match lk L k with
      | some (.ref a) => if n = 1 then some (.inl (pc + 1, L, .ref a :: st, σ)) else none
      | _ => none
    | .iload_n k => match lk L k with
      | some (.int x) => if n = 1 then some (.inl (pc + 1, L, .int x :: st, σ)) else none
      | _ => none
    | .istore_n k => match st with
      | .int x :: r => if n = 1 ∧ (k : Nat) < mml y then some (.inl (pc + 1, st1 L k (.int x), r, σ)) else none
      | _ => none
    | .iinc k v => match lk L k with
      | some (.int x) => if n = 3 ∧ k < mml y then some (.inl (pc + 3, st1 L k (.int (x + Int32.ofInt v)), st, σ)) else none
      | _ => none
    | .iconst v => if n = 1 then some (.inl (pc + 1, L, .int (Int32.ofInt v) :: st, σ)) else none
    | .bipush v => if n = 2 then some (.inl (pc + 2, L, .int (Int8.ofInt v).toInt32 :: st, σ)) else none
    | .sipush v => if n = 3 then some (.inl (pc + 3, L, .int (Int16.ofInt v).toInt32 :: st, σ)) else none
    | .iadd => match st with
      | .int b :: .int a :: r => if n = 1 then some (.inl (pc + 1, L, .int (a + b) :: r, σ)) else none
      | _ => none
    | .imul => match st with
      | .int b :: .int a :: r => if n = 1 then some (.inl (pc + 1, L, .int (a * b) :: r, σ)) else none
      | _ => none
    | .dup => match st with
      | v :: r => if n = 1 ∧ v.category = 1 then some (.inl (pc + 1, L, v :: v :: r, σ)) else none
      | _ => none
    | .if_icmp q off => match q, st with
      | .ge, .int b :: .int a :: r => if n = 3 ∧ (pc : Int) + off = ((tg pc off : Nat) : Int) then some (.inl (if b ≤ a then tg pc off else pc + 3, L, r, σ)) else none
      | _, _ => none
    | .goto off => if n = 3 ∧ (pc : Int) + off = ((tg pc off : Nat) : Int) then some (.inl (tg pc off, L, st, σ)) else none
    | .ireturn => match st with
      | [.int x] => if n = 1 ∧ mrt y = some .int then some (.inr (some (.int x), σ)) else none
      | _ => none
    | .return_ => match st with
      | [] => if n = 1 ∧ mrt y = none then some (.inr (none, σ)) else none
      | _ => none
    | .getfield ix => match st with
      | .ref c :: r => match fld (mown y) ix with
        | some (ci, k) => if n = 3 ∧ c < σ.1 ∧ SH c = (0, ci) ∧ k < nf ci then some (.inl (pc + 3, L, fv σ c ci k :: r, σ)) else none
        | none => none
      | _ => none
    | .putfield ix => match st with
      | v :: .ref c :: r => match fld (mown y) ix with
        | some (ci, k) => if n = 3 ∧ c < σ.1 ∧ SH c = (0, ci) ∧ k < nf ci ∧ (fin ci k = true → (mnm y).name = "<init>" ∧ mown y = ci) then
            match v with
            | .int x => if fkd ci k = 0 ∨ (fkd ci k = 1 ∧ (x = 0 ∨ x = 1)) then some (.inl (pc + 3, L, r, setI σ c k x)) else none
            | .ref a => if fkd ci k = 2 then some (.inl (pc + 3, L, r, setP σ c k (some a))) else none
            | _ => none
          else none
        | none => none
      | _ => none
    | .iastore => match st with
      | .int x :: .int i :: .ref c :: r => if n = 1 ∧ c < σ.1 ∧ (SH c).1 = 1 ∧ ¬ (i < 0 ∨ (SH c).2 ≤ i.toNatClampNeg) then some (.inl (pc + 1, L, r, setI σ c i.toNatClampNeg x)) else none
      | _ => none
    | .aastore => match st with
      | .ref a :: .int i :: .ref c :: r => if n = 1 ∧ c < σ.1 ∧ (SH c).1 = 5 ∧ ¬ (i < 0 ∨ (SH c).2 ≤ i.toNatClampNeg) ∧ a < σ.1 ∧ SH a = (0, 2) then some (.inl (pc + 1, L, r, setP σ c i.toNatClampNeg (some a))) else none
      | _ => none
    | .newarray t => match st with
      | .int z :: r => if n = 2 ∧ atk t < 8 ∧ SH σ.1 = (atk t, z.toNatClampNeg) ∧ ¬ z < 0 ∧ z.toNatClampNeg ≤ 6000 then some (.inl (pc + 2, L, .ref σ.1 :: r, alc σ)) else none
      | _ => none
    | .anewarray ix => match st with
      | .int z :: r => if n = 3 ∧ nwc (mown y) ix = some 2 ∧ SH σ.1 = (5, z.toNatClampNeg) ∧ ¬ z < 0 ∧ z.toNatClampNeg ≤ 6000 then some (.inl (pc + 3, L, .ref σ.1 :: r, alc σ)) else none
      | _ => none
    | .new ix => match nwc (mown y) ix with
      | some ci => if n = 3 ∧ SH σ.1 = (0, ci) then some (.inl (pc + 3, L, .ref σ.1 :: st, alc σ)) else none
      | none => none
    | .invokestatic ix => match st with
      | .int a :: r => match lnk (mown y) ix with
        | some (1, y1) => if n = 3 ∧ mna y1 = 1 ∧ stw r ≤ 8 then (match call y1 [.int a] σ with
            | some (v, σ1) => some (.inl (pc + 3, L, v.toList ++ r, σ1))
            | none => none) else none
        | _ => none
      | _ => none
    | .invokespecial ix => match st with
      | .ref c :: r => match lnk (mown y) ix with
        | some (5, 0) => if n = 3 ∧ stw r ≤ 8 ∧ 1 ≤ dd then some (.inl (pc + 3, L, r, σ)) else none
        | some (kd, y1) => if n = 3 ∧ (kd = 2 ∨ kd = 4) ∧ mna y1 = 0 ∧ stw r ≤ 8 then (match call y1 [.ref c] σ with
            | some (none, σ1) => some (.inl (pc + 3, L, r, σ1))
            | _ => none) else none
        | none => none
      | _ => none
    | _ => none
def runE (dd : Nat) (call : Nat → List Value → Mm → Option (Option Value × Mm)) (y : Nat) : Nat → Nat → Lc → List Value → Mm → Option (Option Value × Mm)
  | 0, _, _, _, _ => none
  | n + 1, pc, L, st, σ => match stepE dd call y pc L st σ with
    | some (.inl (pc1, L1, st1, σ1)) => runE dd call y n pc1 L1 st1 σ1
    | some (.inr q) => some q
    | none => none
def execE (fuel : Nat) : Nat → Nat → List Value → Mm → Option (Option Value × Mm)
  | 0, _, _, _ => none
  | d + 1, y, as, σ => if y < yLAW ∧ stw as ≤ mml y then runE d (execE fuel d) y fuel 0 (lv_args 0 as) [] σ else none
set_option maxHeartbeats 4000000 in
theorem stepE_ok {dd : Nat} {call : Nat → List Value → Mm → Option (Option Value × Mm)} {callP : Cal} (hc : ∀ y as σ v σ1, call y as σ = some (v, σ1) → σ.1 ≤ σ1.1 ∧ callP y as σ v σ1) (y pc : Nat) (L : Lc) (st : List Value) (σ : Mm) (pc1 : Nat) (L1 : Lc) (st1 : List Value) (σ1 : Mm)
    (h : stepE dd call y pc L st σ = some (.inl (pc1, L1, st1, σ1))) : σ.1 ≤ σ1.1 ∧ ∀ (NT : Nat) (K : Kn) (Q : Option Value → Mm → Prop), σ1.1 ≤ NT → K pc1 L1 st1 σ1 → stepP dd NT callP none y K Q pc L st σ := by
  unfold stepE at h
  unfold stepP
  cases hT : TB y pc with
  | none => rw [hT] at h; cases h
  | some q =>
    obtain ⟨i, n⟩ := q
    rw [hT] at h
    cases i
    all_goals (dsimp only at h ⊢)
    all_goals (repeat' (split at h))
    all_goals (try (cases h; done))
    all_goals (cases h)
    all_goals first
      | (refine ⟨Nat.le_refl _, fun NT K Q hN hK => ?_⟩; simp_all [isR, tgOk, retI, vp_in, cnd]; done)
      | (refine ⟨Nat.le_succ _, fun NT K Q hN hK => ?_⟩; have hN2 : σ.1 < NT := hN; simp_all [isR, tgOk, retI, vp_in]; done)
      | skip
    · rename_i a i c h0
      obtain ⟨h1, h2, h3, h4, h5, h6⟩ := h0
      exact ⟨Nat.le_refl _, fun NT K Q hN hK => ⟨h1, a, i, c, _, rfl, h2, h3, h4, h5, h6, hK⟩⟩
    · rename_i b a r h0
      exact ⟨Nat.le_refl _, fun NT K Q hN hK => ⟨h0, a, b, _, rfl, hK⟩⟩
    · rename_i x i c h0
      obtain ⟨h1, h2, h3, h4⟩ := h0
      exact ⟨Nat.le_refl _, fun NT K Q hN hK => ⟨h1, x, i, c, _, rfl, h2, h3, h4, hK⟩⟩
    · rename_i b a h1 h2
      exact ⟨Nat.le_refl _, fun NT K Q hN hK => ⟨h1.1, h1.2, a, b, _, rfl, fun _ => hK, fun z => absurd h2 z⟩⟩
    · rename_i b a h1 h2
      exact ⟨Nat.le_refl _, fun NT K Q hN hK => ⟨h1.1, h1.2, a, b, _, rfl, fun z => absurd z h2, fun _ => hK⟩⟩
    · rename_i b a r h0
      exact ⟨Nat.le_refl _, fun NT K Q hN hK => ⟨h0, a, b, _, rfl, hK⟩⟩
    · rename_i c x2 kd y1 x1 hl x0 h0 hq
      obtain ⟨g1, g2⟩ := hc _ _ _ _ _ hq
      exact ⟨g1, fun NT K Q hN hK => ⟨h0.1, Or.inl ⟨y1, [], c, _, σ1, kd, hl, h0.2.1, rfl, h0.2.2.1.symm, h0.2.2.2, g2, hN, hK⟩⟩⟩
    · rename_i a r x1 y1 hl h0 x0 v hq
      obtain ⟨g1, g2⟩ := hc _ _ _ _ _ hq
      exact ⟨g1, fun NT K Q hN hK => ⟨h0.1, Or.inl ⟨y1, [.int a], r, v, σ1, 1, hl, Or.inl rfl, rfl, h0.2.1.symm, h0.2.2, g2, hN, hK⟩⟩⟩
set_option maxHeartbeats 4000000 in
theorem stepE_ret {dd : Nat} {call : Nat → List Value → Mm → Option (Option Value × Mm)} {callP : Cal} (y pc : Nat) (L : Lc) (st : List Value) (σ : Mm) (v : Option Value) (σ1 : Mm)
    (h : stepE dd call y pc L st σ = some (.inr (v, σ1))) : σ = σ1 ∧ ∀ (NT : Nat) (K : Kn) (Q : Option Value → Mm → Prop), Q v σ1 → stepP dd NT callP none y K Q pc L st σ := by
  unfold stepE at h
  unfold stepP
  cases hT : TB y pc with
  | none => rw [hT] at h; cases h
  | some q =>
    obtain ⟨i, n⟩ := q
    rw [hT] at h
    cases i
    all_goals (dsimp only at h ⊢)
    all_goals (repeat' (split at h))
    all_goals (try (cases h; done))
    · rename_i x h0
      cases h
      exact ⟨rfl, fun NT K Q hQ => ⟨h0.1, x, rfl, Or.inl h0.2, hQ⟩⟩
    · rename_i h0
      cases h
      exact ⟨rfl, fun NT K Q hQ => ⟨h0.1, rfl, h0.2, hQ⟩⟩
theorem runE_ok {dd : Nat} {call : Nat → List Value → Mm → Option (Option Value × Mm)} {callP : Cal} (hc : ∀ y as σ v σ1, call y as σ = some (v, σ1) → σ.1 ≤ σ1.1 ∧ callP y as σ v σ1) (y : Nat) :
    ∀ (n pc : Nat) (L : Lc) (st : List Value) (σ : Mm) (v : Option Value) (σf : Mm), runE dd call y n pc L st σ = some (v, σf) → σ.1 ≤ σf.1 ∧ runP dd σf.1 callP none y (fun v2 σ2 => v2 = v ∧ σ2 = σf) n pc L st σ
  | 0, _, _, _, _, _, _, h => by cases h
  | n + 1, pc, L, st, σ, v, σf, h => by
    unfold runE at h
    cases hs : stepE dd call y pc L st σ with
    | none => rw [hs] at h; cases h
    | some q =>
      rw [hs] at h
      rcases q with ⟨pc1, L1, st1, σ1⟩ | q
      · obtain ⟨g1, g2⟩ := runE_ok hc y n pc1 L1 st1 σ1 v σf h
        obtain ⟨k1, k2⟩ := stepE_ok hc y pc L st σ pc1 L1 st1 σ1 hs
        exact ⟨Nat.le_trans k1 g1, k2 _ _ _ g1 g2⟩
      · dsimp only at h
        cases h
        obtain ⟨k1, k2⟩ := stepE_ret (callP := callP) y pc L st σ v σf hs
        subst k1
        exact ⟨Nat.le_refl _, k2 _ _ _ ⟨rfl, rfl⟩⟩
theorem execE_ok (fuel : Nat) : ∀ (d y : Nat) (as : List Value) (σ : Mm) (v : Option Value) (σ1 : Mm), execE fuel d y as σ = some (v, σ1) → σ.1 ≤ σ1.1 ∧ Exec d y as σ v σ1
  | 0, _, _, _, _, _, h => by cases h
  | d + 1, y, as, σ, v, σ1, h => by
    unfold execE at h
    split at h
    · rename_i h0
      obtain ⟨g1, g2⟩ := runE_ok (fun y as σ v σ1 h => execE_ok fuel d y as σ v σ1 h) y fuel 0 _ _ _ _ _ h
      exact ⟨g1, g1, h0.1, h0.2, fuel, g2⟩
    · cases h
/-- the memory behind both constructors -/
def mX : Mm := ((execE 400 9 nX3_init [.ref 0] (alc (0, fun _ _ => 0, fun _ _ => none, fun _ _ => 0))).getD (none, (0, fun _ _ => 0, fun _ _ => none, fun _ _ => 0))).2
theorem opt_get {α : Type} {o : Option (Option Value × α)} {d : Option Value × α} (h : o.map (fun q => q.1) = some none) : o = some (none, (o.getD d).2) := by
  cases o with
  | none => cases h
  | some q =>
    obtain ⟨v, a⟩ := q
    cases v with
    | none => rfl
    | some v => cases h
set_option maxRecDepth 100000 in
set_option maxHeartbeats 4000000 in
theorem initX_ok : Exec 9 nX3_init [.ref 0] (alc (0, fun _ _ => 0, fun _ _ => none, fun _ _ => 0)) none mX := (execE_ok 400 9 _ _ _ _ _ (opt_get (by decide +kernel))).2
set_option maxRecDepth 100000 in
theorem mX_n : mX.1 = 73 := by decide +kernel
end
section
/-! the references behind the constructors: none but those that the layout tells -/
def InvP (σ : Mm) : Prop := ∀ c k, σ.1 ≤ c ∨ 16 ≤ k → σ.2.2.1 c k = none
theorem nf_le (ci : Nat) : nf ci ≤ 16 := by
  match ci with
  | 0 => decide
  | 1 => decide
  | 2 => decide
  | 3 => decide
  | k + 4 => exact Nat.zero_le _
theorem SH5_le : ∀ c, (SH c).1 = 5 → (SH c).2 ≤ 16 := by
  have h : ∀ q ∈ SHL, q.1 = 5 → q.2 ≤ 16 := by decide
  intro c hc
  by_cases hl : c < SHL.length
  · have e : SH c = SHL[c] := by unfold SH; rw [List.getD_eq_getElem?_getD, List.getElem?_eq_getElem hl]; rfl
    rw [e] at hc ⊢
    exact h _ (List.getElem_mem hl) hc
  · have e : SH c = (9, 0) := by unfold SH; rw [List.getD_eq_getElem?_getD, List.getElem?_eq_none (by omega)]; rfl
    rw [e] at hc
    cases hc
theorem InvP_alc {σ : Mm} (h : InvP σ) : InvP (alc σ) := by
  intro c k hk
  show rw2 σ.2.2.1 σ.1 (fun _ => none) c k = none
  by_cases hc : c = σ.1
  · subst hc; rw [rw2_row]
  · rw [rw2_ne _ _ hc]
    refine h c k ?_
    rcases hk with hk | hk
    · have : σ.1 + 1 ≤ c := hk
      exact Or.inl (by omega)
    · exact Or.inr hk
theorem InvP_setP {σ : Mm} (h : InvP σ) {c k : Nat} (x : Option Nat) (hc : c < σ.1) (hk : k < 16) : InvP (setP σ c k x) := by
  intro a j hj
  show up2 σ.2.2.1 c k x a j = none
  have : ¬ (a = c ∧ j = k) := by
    rintro ⟨rfl, rfl⟩
    rcases hj with hj | hj
    · exact absurd hc (Nat.not_lt.mpr hj)
    · omega
  unfold up2
  rw [if_neg this]
  exact h a j hj
set_option maxHeartbeats 4000000 in
theorem stepE_inv {dd : Nat} {call : Nat → List Value → Mm → Option (Option Value × Mm)} (hc : ∀ y as σ v σ1, call y as σ = some (v, σ1) → InvP σ → InvP σ1) (y pc : Nat) (L : Lc) (st : List Value) (σ : Mm) (pc1 : Nat) (L1 : Lc) (st1 : List Value) (σ1 : Mm)
    (h : stepE dd call y pc L st σ = some (.inl (pc1, L1, st1, σ1))) (hI : InvP σ) : InvP σ1 := by
  unfold stepE at h
  cases hT : TB y pc with
  | none => rw [hT] at h; cases h
  | some q =>
    obtain ⟨i, n⟩ := q
    rw [hT] at h
    cases i
    all_goals (dsimp only at h)
    all_goals (repeat' (split at h))
    all_goals (try (cases h; done))
    all_goals (cases h)
    all_goals first
      | exact hI
      | exact InvP_alc hI
      | exact hc _ _ _ _ _ (by assumption) hI
      | skip
    · rename_i h0
      exact InvP_setP hI _ h0.2.1 (Nat.lt_of_lt_of_le (by have := h0.2.2.2.1; exact Nat.not_le.mp fun q => this (Or.inr q)) (SH5_le _ h0.2.2.1))
    · first
        | (rename_i h0 a h1; exact InvP_setP hI _ h0.2.1 (Nat.lt_of_lt_of_le h0.2.2.2.1 (nf_le _)))
        | (rename_i h0 v a h1; exact InvP_setP hI _ h0.2.1 (Nat.lt_of_lt_of_le h0.2.2.2.1 (nf_le _)))
        | (rename_i h0 u v a h1; exact InvP_setP hI _ h0.2.1 (Nat.lt_of_lt_of_le h0.2.2.2.1 (nf_le _)))
theorem runE_inv {dd : Nat} {call : Nat → List Value → Mm → Option (Option Value × Mm)} (hc : ∀ y as σ v σ1, call y as σ = some (v, σ1) → InvP σ → InvP σ1) (y : Nat) :
    ∀ (n pc : Nat) (L : Lc) (st : List Value) (σ : Mm) (v : Option Value) (σf : Mm), runE dd call y n pc L st σ = some (v, σf) → InvP σ → InvP σf
  | 0, _, _, _, _, _, _, h, _ => by cases h
  | n + 1, pc, L, st, σ, v, σf, h, hI => by
    unfold runE at h
    cases hs : stepE dd call y pc L st σ with
    | none => rw [hs] at h; cases h
    | some q =>
      rw [hs] at h
      rcases q with ⟨pc1, L1, st1, σ1⟩ | q
      · exact runE_inv hc y n pc1 L1 st1 σ1 v σf h (stepE_inv hc y pc L st σ pc1 L1 st1 σ1 hs hI)
      · dsimp only at h
        cases h
        rw [← (stepE_ret (callP := fun _ _ _ _ _ => True) y pc L st σ v σf hs).1]
        exact hI
theorem execE_inv (fuel : Nat) : ∀ (d y : Nat) (as : List Value) (σ : Mm) (v : Option Value) (σ1 : Mm), execE fuel d y as σ = some (v, σ1) → InvP σ → InvP σ1
  | 0, _, _, _, _, _, h, _ => by cases h
  | d + 1, y, as, σ, v, σ1, h, hI => by
    unfold execE at h
    split at h
    · exact runE_inv (fun y as σ v σ1 h => execE_inv fuel d y as σ v σ1 h) y fuel 0 _ _ _ _ _ h hI
    · cases h
set_option maxRecDepth 100000 in
set_option maxHeartbeats 4000000 in
theorem mX_inv : InvP mX := execE_inv 400 9 nX3_init [.ref 0] (alc (0, fun _ _ => 0, fun _ _ => none, fun _ _ => 0)) none mX (opt_get (by decide +kernel)) (InvP_alc (fun _ _ _ => rfl))
/-- the references of the layout: State S at S + 1 .. S + 8 -/
def PFS (S : Nat) (k : Nat) : Option Nat := if 7 ≤ k ∧ k < 15 then some (S + (k - 6)) else none
def PF (c k : Nat) : Option Nat := match c with
  | 0 => [some 1, some 10, some 19, some 28, some 29, some 31].getD k none
  | 1 => PFS 1 k
  | 10 => PFS 10 k
  | 19 => PFS 19 k
  | 28 => [some 37, some 46, some 55, some 64].getD k none
  | 29 => if k = 2 then some 30 else none
  | 31 => [some 32, none, none, none, some 33, some 34, some 35, some 36].getD k none
  | 37 => PFS 37 k
  | 46 => PFS 46 k
  | 55 => PFS 55 k
  | 64 => PFS 64 k
  | _ => none
set_option maxRecDepth 100000 in
set_option maxHeartbeats 4000000 in
theorem PF_in : ((List.range 73).all fun c => (List.range 16).all fun k => mX.2.2.1 c k == PF c k) = true := by decide +kernel
theorem PF_eq : mX.2.2.1 = PF := by
  funext c k
  by_cases h : c < 73 ∧ k < 16
  · have h1 := List.all_eq_true.mp (List.all_eq_true.mp PF_in c (List.mem_range.mpr h.1)) k (List.mem_range.mpr h.2)
    simpa using h1
  · rw [mX_inv c k (by rw [mX_n]; omega)]
    unfold PF
    split <;> first | rfl | (unfold PFS; rw [if_neg (by omega)]) | (rw [List.getD_eq_getElem?_getD, List.getElem?_eq_none (by simp; omega)]; rfl) | (rw [if_neg (by omega)])
end
section
/-! RUNS behind the constructors: 73 cells, the references of the layout, but those of the history (h) -/
def PH (h : Nat → Option Nat) : Nat → Nat → Option Nat := fun c k => if c = 28 then h k else PF c k
abbrev Im : Type := Nat → Nat → Int32
abbrev Hm : Type := Nat → Option Nat
abbrev Dm : Type := Nat → Nat → UInt64
def rs (M : Im) (h : Hm) (D : Dm) : Mm := (73, M, PH h, D)
theorem PH_ne {h : Hm} {c k : Nat} (hc : c ≠ 28) : PH h c k = PF c k := if_neg hc
theorem PH_28 {h : Hm} {k : Nat} : PH h 28 k = h k := if_pos rfl
theorem rs_of (σ : Mm) (h1 : σ.1 = 73) (h2 : σ.2.2.1 = PF) : σ = rs σ.2.1 (PF 28) σ.2.2.2 := by
  obtain ⟨N, M, P, D⟩ := σ
  dsimp only at h1 h2
  subst h1; subst h2
  have h3 : PH (PF 28) = PF := by
    funext c k
    by_cases hc : c = 28
    · subst hc; exact PH_28
    · exact PH_ne hc
  unfold rs
  rw [h3]
theorem mX_rs : mX = rs mX.2.1 (PF 28) mX.2.2.2 := rs_of mX mX_n PF_eq
theorem setP_rs {M : Im} {h : Hm} {D : Dm} {k : Nat} {v : Option Nat} : setP (rs M h D) 28 k v = rs M (va_up h k v) D := by
  unfold setP rs
  refine congrArg (fun f => ((73, M, f, D) : Mm)) ?_
  funext c j
  unfold up2 PH va_up
  by_cases hc : c = 28
  · subst hc
    by_cases hj : j = k <;> simp [hj]
  · simp [hc]
/-- a run of a method from a point on comes to an end with Q -/
def Ev (d : Nat) (scr : Option (Nat × (Nat → Int32))) (y pc : Nat) (L : Lc) (st : List Value) (M : Im) (h : Hm) (D : Dm) (Q : Option Value → Im → Hm → Dm → Prop) : Prop :=
  ∃ v M1 h1 D1, Q v M1 h1 D1 ∧ ∃ n, runP d 73 (ExecS scr d) scr y (fun v2 σ2 => v2 = v ∧ σ2 = rs M1 h1 D1) n pc L st (rs M h D)
/-- a call answers an int, nothing, a double -/
def CI (d y : Nat) (as : List Value) (M : Im) (h : Hm) (D : Dm) (Q : Int32 → Im → Hm → Dm → Prop) : Prop := ∃ x M1 h1 D1, Exec d y as (rs M h D) (some (.int x)) (rs M1 h1 D1) ∧ Q x M1 h1 D1
def CV (d y : Nat) (as : List Value) (M : Im) (h : Hm) (D : Dm) (Q : Im → Hm → Dm → Prop) : Prop := ∃ M1 h1 D1, Exec d y as (rs M h D) none (rs M1 h1 D1) ∧ Q M1 h1 D1
def CD (d y : Nat) (as : List Value) (M : Im) (h : Hm) (D : Dm) (Q : UInt64 → Im → Hm → Dm → Prop) : Prop := ∃ x M1 h1 D1, Exec d y as (rs M h D) (some (.double x)) (rs M1 h1 D1) ∧ Q x M1 h1 D1
abbrev EvI (d : Nat) (y pc : Nat) (L : Lc) (st : List Value) (M : Im) (h : Hm) (D : Dm) (Q : Int32 → Im → Hm → Dm → Prop) : Prop := Ev d none y pc L st M h D (fun v M1 h1 D1 => ∃ x, v = some (.int x) ∧ Q x M1 h1 D1)
abbrev EvV (d : Nat) (y pc : Nat) (L : Lc) (st : List Value) (M : Im) (h : Hm) (D : Dm) (Q : Im → Hm → Dm → Prop) : Prop := Ev d none y pc L st M h D (fun v M1 h1 D1 => v = none ∧ Q M1 h1 D1)
abbrev EvD (d : Nat) (y pc : Nat) (L : Lc) (st : List Value) (M : Im) (h : Hm) (D : Dm) (Q : UInt64 → Im → Hm → Dm → Prop) : Prop := Ev d none y pc L st M h D (fun v M1 h1 D1 => ∃ x, v = some (.double x) ∧ Q x M1 h1 D1)
/-! a call over the script -/
theorem sc_no {α : Type} {x : α} {p : Prop} (h : none = some x) : p := by cases h
set_option maxHeartbeats 4000000 in
theorem stepP_sc {dd NT y : Nat} {call call1 : Cal} {scr : Option (Nat × (Nat → Int32))} {K K1 : Kn} {Q : Option Value → Mm → Prop} {pc : Nat} {L : Lc} {st : List Value} {σ : Mm} (hc : ∀ y as σ v σ1, call y as σ v σ1 → call1 y as σ v σ1) (hK : ∀ pc L st σ, K pc L st σ → K1 pc L st σ) : stepP dd NT call none y K Q pc L st σ → stepP dd NT call1 scr y K1 Q pc L st σ := by
  unfold stepP
  cases TB y pc with
  | none => exact id
  | some q =>
    obtain ⟨i, n⟩ := q
    cases i
    all_goals (dsimp only)
    all_goals (repeat' (first
      | exact id
      | exact hK _ _ _ _
      | exact hc _ _ _ _ _
      | exact fun f z => hK _ _ _ _ (f z)
      | exact fun f z => ⟨(f z).1, hK _ _ _ _ (f z).2⟩
      | exact sc_no
      | refine And.imp ?_ ?_
      | refine Or.imp ?_ ?_
      | refine Exists.imp (fun _ => ?_)
      | refine (fun f z => Exists.imp (fun _ => ?_) (f z))))
theorem runP_sc {dd NT y : Nat} {call call1 : Cal} {scr : Option (Nat × (Nat → Int32))} {Q : Option Value → Mm → Prop} (hc : ∀ y as σ v σ1, call y as σ v σ1 → call1 y as σ v σ1) : ∀ (n pc : Nat) (L : Lc) (st : List Value) (σ : Mm), runP dd NT call none y Q n pc L st σ → runP dd NT call1 scr y Q n pc L st σ
  | 0, _, _, _, _, h => h.elim
  | n + 1, _, _, _, _, h => stepP_sc hc (fun pc L st σ hk => runP_sc hc n pc L st σ hk) h
theorem exec_sc {scr : Option (Nat × (Nat → Int32))} : ∀ (d y : Nat) (as : List Value) (σ : Mm) (v : Option Value) (σ1 : Mm), ExecS none d y as σ v σ1 → ExecS scr d y as σ v σ1
  | 0, _, _, _, _, _, h => h.elim
  | d + 1, _, _, _, _, _, ⟨h1, h2, h3, n, h4⟩ => ⟨h1, h2, h3, n, runP_sc (fun y as σ v σ1 h => exec_sc d y as σ v σ1 h) n _ _ _ _ h4⟩
def CIS (scr : Option (Nat × (Nat → Int32))) (d y : Nat) (as : List Value) (M : Im) (h : Hm) (D : Dm) (Q : Int32 → Im → Hm → Dm → Prop) : Prop := ∃ x M1 h1 D1, ExecS scr d y as (rs M h D) (some (.int x)) (rs M1 h1 D1) ∧ Q x M1 h1 D1
abbrev EvIS (scr : Option (Nat × (Nat → Int32))) (d : Nat) (y pc : Nat) (L : Lc) (st : List Value) (M : Im) (h : Hm) (D : Dm) (Q : Int32 → Im → Hm → Dm → Prop) : Prop := Ev d scr y pc L st M h D (fun v M1 h1 D1 => ∃ x, v = some (.int x) ∧ Q x M1 h1 D1)
theorem cis_of {scr : Option (Nat × (Nat → Int32))} {d y : Nat} {as : List Value} {M : Im} {h : Hm} {D : Dm} {Q : Int32 → Im → Hm → Dm → Prop} (hy : Nat.ble (y + 1) yLAW = true) (hw : Nat.ble (stw as) (mml y) = true) (k : EvIS scr d y 0 (lv_args 0 as) [] M h D Q) : CIS scr (d + 1) y as M h D Q := by
  obtain ⟨v, M1, h1, D1, ⟨x, rfl, hq⟩, n, hr⟩ := k
  exact ⟨x, M1, h1, D1, ⟨Nat.le_refl _, Nat.le_of_ble_eq_true hy, Nat.le_of_ble_eq_true hw, n, hr⟩, hq⟩
theorem cis_w {scr : Option (Nat × (Nat → Int32))} {d y : Nat} {as : List Value} {M : Im} {h : Hm} {D : Dm} {Q Q1 : Int32 → Im → Hm → Dm → Prop} (hc : CIS scr d y as M h D Q) (k : ∀ x M1 h1 D1, Q x M1 h1 D1 → Q1 x M1 h1 D1) : CIS scr d y as M h D Q1 := by
  obtain ⟨x, M1, h1, D1, he, hq⟩ := hc; exact ⟨x, M1, h1, D1, he, k _ _ _ _ hq⟩
section EV
variable {d y pc pc1 : Nat} {scr : Option (Nat × (Nat → Int32))} {L : Lc} {st : List Value} {M : Im} {h : Hm} {D : Dm} {as r : List Value}
theorem ci_of {Q : Int32 → Im → Hm → Dm → Prop} (hy : Nat.ble (y + 1) yLAW = true) (hw : Nat.ble (stw as) (mml y) = true) (k : EvI d y 0 (lv_args 0 as) [] M h D Q) : CI (d + 1) y as M h D Q := by
  obtain ⟨v, M1, h1, D1, ⟨x, rfl, hq⟩, n, hr⟩ := k
  exact ⟨x, M1, h1, D1, ⟨Nat.le_refl _, Nat.le_of_ble_eq_true hy, Nat.le_of_ble_eq_true hw, n, hr⟩, hq⟩
theorem cv_of {Q : Im → Hm → Dm → Prop} (hy : Nat.ble (y + 1) yLAW = true) (hw : Nat.ble (stw as) (mml y) = true) (k : EvV d y 0 (lv_args 0 as) [] M h D Q) : CV (d + 1) y as M h D Q := by
  obtain ⟨v, M1, h1, D1, ⟨rfl, hq⟩, n, hr⟩ := k
  exact ⟨M1, h1, D1, ⟨Nat.le_refl _, Nat.le_of_ble_eq_true hy, Nat.le_of_ble_eq_true hw, n, hr⟩, hq⟩
theorem cd_of {Q : UInt64 → Im → Hm → Dm → Prop} (hy : Nat.ble (y + 1) yLAW = true) (hw : Nat.ble (stw as) (mml y) = true) (k : EvD d y 0 (lv_args 0 as) [] M h D Q) : CD (d + 1) y as M h D Q := by
  obtain ⟨v, M1, h1, D1, ⟨x, rfl, hq⟩, n, hr⟩ := k
  exact ⟨x, M1, h1, D1, ⟨Nat.le_refl _, Nat.le_of_ble_eq_true hy, Nat.le_of_ble_eq_true hw, n, hr⟩, hq⟩
theorem ci_w {Q Q1 : Int32 → Im → Hm → Dm → Prop} (hc : CI d y as M h D Q) (k : ∀ x M1 h1 D1, Q x M1 h1 D1 → Q1 x M1 h1 D1) : CI d y as M h D Q1 := by
  obtain ⟨x, M1, h1, D1, he, hq⟩ := hc; exact ⟨x, M1, h1, D1, he, k _ _ _ _ hq⟩
theorem cv_w {Q Q1 : Im → Hm → Dm → Prop} (hc : CV d y as M h D Q) (k : ∀ M1 h1 D1, Q M1 h1 D1 → Q1 M1 h1 D1) : CV d y as M h D Q1 := by
  obtain ⟨M1, h1, D1, he, hq⟩ := hc; exact ⟨M1, h1, D1, he, k _ _ _ hq⟩
theorem cd_w {Q Q1 : UInt64 → Im → Hm → Dm → Prop} (hc : CD d y as M h D Q) (k : ∀ x M1 h1 D1, Q x M1 h1 D1 → Q1 x M1 h1 D1) : CD d y as M h D Q1 := by
  obtain ⟨x, M1, h1, D1, he, hq⟩ := hc; exact ⟨x, M1, h1, D1, he, k _ _ _ _ hq⟩
/-! fewer locals -/
def ndk : List Nat → Bool
  | [] => true
  | a :: r => !(r.contains a) && ndk r
def LE (A B : Lc) : Prop := (∀ q ∈ A, q ∈ B) ∧ (B.map (·.1)).Nodup
theorem ndk_ok : ∀ {l : List Nat}, ndk l = true → l.Nodup
  | [], _ => List.nodup_nil
  | a :: r, h => by
    simp only [ndk, Bool.and_eq_true, Bool.not_eq_true', List.contains_eq_mem, decide_eq_false_iff_not] at h
    exact List.nodup_cons.mpr ⟨h.1, ndk_ok h.2⟩
theorem lk_of : ∀ {B : Lc} {i : Nat} {v : Value}, (B.map (·.1)).Nodup → (i, v) ∈ B → lk B i = some v
  | [], _, _, _, h => absurd h List.not_mem_nil
  | q :: r, i, v, hn, h => by
    rw [List.map_cons, List.nodup_cons] at hn
    unfold lk
    by_cases hq : q.1 = i
    · rw [if_pos hq]
      rcases List.mem_cons.mp h with h | h
      · rw [← h]
      · exact absurd (List.mem_map.mpr ⟨(i, v), h, rfl⟩) (hq ▸ hn.1)
    · rw [if_neg hq]
      rcases List.mem_cons.mp h with h | h
      · rw [← h] at hq; exact absurd rfl hq
      · exact lk_of hn.2 h
theorem LE.lk {A B : Lc} (h : LE A B) {i : Nat} {v : Value} (hv : lk A i = some v) : lk B i = some v := lk_of h.2 (h.1 _ (lk_mem hv))
theorem LE.put {A B : Lc} (h : LE A B) (i : Nat) (v : Value) (p : Nat × Value → Bool) (hp : ∀ q, q.1 = i → p q = false) : LE ((i, v) :: A.filter p) ((i, v) :: B.filter p) := by
  refine ⟨fun q hq => ?_, ?_⟩
  · rcases List.mem_cons.mp hq with rfl | hq
    · exact List.mem_cons_self
    · exact List.mem_cons_of_mem _ (List.mem_filter.mpr ⟨h.1 q (List.mem_filter.mp hq).1, (List.mem_filter.mp hq).2⟩)
  · rw [List.map_cons, List.nodup_cons]
    refine ⟨fun hm => ?_, (h.2.sublist ((List.filter_sublist).map _))⟩
    obtain ⟨q, hq, he⟩ := List.mem_map.mp hm
    have := hp q he
    rw [(List.mem_filter.mp hq).2] at this
    cases this
theorem LE.st1 {A B : Lc} (h : LE A B) (i : Nat) (v : Value) : LE (st1 A i v) (st1 B i v) := h.put i v _ (fun q hq => by simp [hq])
theorem LE.st2 {A B : Lc} (h : LE A B) (i : Nat) (v : Value) : LE (st2 A i v) (st2 B i v) := h.put i v _ (fun q hq => by simp [hq])
set_option maxHeartbeats 4000000 in
theorem stepP_le {dd NT : Nat} {call : Cal} {K K1 : Kn} {Q : Option Value → Mm → Prop} {A B : Lc} {σ : Mm} (hL : LE A B) (hK : ∀ pc A B st σ, LE A B → K pc A st σ → K1 pc B st σ) : stepP dd NT call scr y K Q pc A st σ → stepP dd NT call scr y K1 Q pc B st σ := by
  unfold stepP
  cases TB y pc with
  | none => exact id
  | some q =>
    obtain ⟨i, n⟩ := q
    cases i
    all_goals (dsimp only)
    all_goals (repeat' (first
      | exact id
      | exact hK _ _ _ _ _ hL
      | exact hK _ _ _ _ _ (hL.st1 _ _)
      | exact hK _ _ _ _ _ (hL.st2 _ _)
      | exact fun f z => hK _ _ _ _ _ hL (f z)
      | exact fun f z => ⟨(f z).1, hK _ _ _ _ _ hL (f z).2⟩
      | exact hL.lk
      | refine And.imp ?_ ?_
      | refine Or.imp ?_ ?_
      | refine Exists.imp (fun _ => ?_)
      | refine (fun f z => Exists.imp (fun _ => ?_) (f z))))
theorem runP_le {dd NT : Nat} {call : Cal} {Q : Option Value → Mm → Prop} : ∀ (n pc : Nat) (A B : Lc) (st : List Value) (σ : Mm), LE A B → runP dd NT call scr y Q n pc A st σ → runP dd NT call scr y Q n pc B st σ
  | 0, _, _, _, _, _, _, h => h.elim
  | n + 1, _, _, _, _, _, hL, h => stepP_le hL (fun pc A B st σ hL hk => runP_le n pc A B st σ hL hk) h
theorem ev_le {Q : Option Value → Im → Hm → Dm → Prop} {A : Lc} (ps : List Nat) (hA : A = ps.filterMap (fun i => L[i]?)) (hn : ndk (L.map (·.1)) = true) (k : Ev d scr y pc A st M h D Q) : Ev d scr y pc L st M h D Q := by
  obtain ⟨v, M1, h1, D1, hq, n, hr⟩ := k
  refine ⟨v, M1, h1, D1, hq, n, runP_le n pc A L st _ ⟨fun q hq => ?_, ndk_ok hn⟩ hr⟩
  rw [hA] at hq
  obtain ⟨i, -, hi⟩ := List.mem_filterMap.mp hq
  exact List.mem_of_getElem? hi
end EV
end
section
/-! RULES of runs, an instruction each -/
section ER
variable {d y pc pc1 : Nat} {scr : Option (Nat × (Nat → Int32))} {L : Lc} {st : List Value} {M : Im} {h : Hm} {D : Dm} {as r : List Value} {Q : Option Value → Im → Hm → Dm → Prop}
theorem ev_step {L1 : Lc} {st1 : List Value} {M1 : Im} {h1 : Hm} {D1 : Dm} (hs : ∀ (K : Kn) (Q1 : Option Value → Mm → Prop), K pc1 L1 st1 (rs M1 h1 D1) → stepP d 73 (ExecS scr d) scr y K Q1 pc L st (rs M h D)) (k : Ev d scr y pc1 L1 st1 M1 h1 D1 Q) : Ev d scr y pc L st M h D Q := by
  obtain ⟨v, M2, h2, D2, hq, n, hr⟩ := k
  exact ⟨v, M2, h2, D2, hq, n + 1, hs _ _ hr⟩
theorem ev_ret {v : Option Value} (hs : ∀ (K : Kn) (Q1 : Option Value → Mm → Prop), Q1 v (rs M h D) → stepP d 73 (ExecS scr d) scr y K Q1 pc L st (rs M h D)) (hq : Q v M h D) : Ev d scr y pc L st M h D Q :=
  ⟨v, M, h, D, hq, 1, hs _ _ ⟨rfl, rfl⟩⟩
theorem ev_aload_n {n : Fin 4} {v : Value} (hv : lk L n = some v) (hr : isR v = true) (ht : TB y pc = some (.aload_n n, 1)) (e : pc + 1 = pc1) (k : Ev d scr y pc1 L (v :: r) M h D Q) : Ev d scr y pc L (r) M h D Q := by
  subst e
  exact ev_step (fun K Q1 hk => by unfold stepP; rw [ht]; exact ⟨rfl, v, hv, hr, hk⟩) k
theorem ev_iload_n {n : Fin 4} {x : Int32} (hv : lk L n = some (.int x)) (ht : TB y pc = some (.iload_n n, 1)) (e : pc + 1 = pc1) (k : Ev d scr y pc1 L (.int x :: r) M h D Q) : Ev d scr y pc L (r) M h D Q := by
  subst e
  exact ev_step (fun K Q1 hk => by unfold stepP; rw [ht]; exact ⟨rfl, x, hv, hk⟩) k
theorem ev_fload_n {n : Fin 4} {x : UInt32} (hv : lk L n = some (.float x)) (ht : TB y pc = some (.fload_n n, 1)) (e : pc + 1 = pc1) (k : Ev d scr y pc1 L (.float x :: r) M h D Q) : Ev d scr y pc L (r) M h D Q := by
  subst e
  exact ev_step (fun K Q1 hk => by unfold stepP; rw [ht]; exact ⟨rfl, x, hv, hk⟩) k
theorem ev_dload_n {n : Fin 4} {x : UInt64} (hv : lk L n = some (.double x)) (ht : TB y pc = some (.dload_n n, 1)) (e : pc + 1 = pc1) (k : Ev d scr y pc1 L (.double x :: r) M h D Q) : Ev d scr y pc L (r) M h D Q := by
  subst e
  exact ev_step (fun K Q1 hk => by unfold stepP; rw [ht]; exact ⟨rfl, x, hv, hk⟩) k
theorem ev_iload {n : Nat} {x : Int32} (hv : lk L n = some (.int x)) (ht : TB y pc = some (.iload n, 2)) (e : pc + 2 = pc1) (k : Ev d scr y pc1 L (.int x :: r) M h D Q) : Ev d scr y pc L (r) M h D Q := by
  subst e
  exact ev_step (fun K Q1 hk => by unfold stepP; rw [ht]; exact ⟨rfl, x, hv, hk⟩) k
theorem ev_dload {n : Nat} {x : UInt64} (hv : lk L n = some (.double x)) (ht : TB y pc = some (.dload n, 2)) (e : pc + 2 = pc1) (k : Ev d scr y pc1 L (.double x :: r) M h D Q) : Ev d scr y pc L (r) M h D Q := by
  subst e
  exact ev_step (fun K Q1 hk => by unfold stepP; rw [ht]; exact ⟨rfl, x, hv, hk⟩) k
theorem ev_istore_n {n : Fin 4} {x : Int32} {L1 : Lc} (hn : (n : Nat) < mml y) (hL : st1 L n (.int x) = L1) (ht : TB y pc = some (.istore_n n, 1)) (e : pc + 1 = pc1) (k : Ev d scr y pc1 L1 (r) M h D Q) : Ev d scr y pc L (.int x :: r) M h D Q := by
  subst e
  exact ev_step (fun K Q1 hk => by unfold stepP; rw [ht]; exact ⟨rfl, hn, x, r, rfl, by rw [hL]; exact hk⟩) k
theorem ev_istore {n : Nat} {x : Int32} {L1 : Lc} (hn : (n : Nat) < mml y) (hL : st1 L n (.int x) = L1) (ht : TB y pc = some (.istore n, 2)) (e : pc + 2 = pc1) (k : Ev d scr y pc1 L1 (r) M h D Q) : Ev d scr y pc L (.int x :: r) M h D Q := by
  subst e
  exact ev_step (fun K Q1 hk => by unfold stepP; rw [ht]; exact ⟨rfl, hn, x, r, rfl, by rw [hL]; exact hk⟩) k
theorem ev_astore_n {n : Fin 4} {x : Nat} {L1 : Lc} (hn : (n : Nat) < mml y) (hL : st1 L n (.ref x) = L1) (ht : TB y pc = some (.astore_n n, 1)) (e : pc + 1 = pc1) (k : Ev d scr y pc1 L1 (r) M h D Q) : Ev d scr y pc L (.ref x :: r) M h D Q := by
  subst e
  exact ev_step (fun K Q1 hk => by unfold stepP; rw [ht]; exact ⟨rfl, hn, x, r, rfl, by rw [hL]; exact hk⟩) k
theorem ev_fstore_n {n : Fin 4} {x : UInt32} {L1 : Lc} (hn : (n : Nat) < mml y) (hL : st1 L n (.float x) = L1) (ht : TB y pc = some (.fstore_n n, 1)) (e : pc + 1 = pc1) (k : Ev d scr y pc1 L1 (r) M h D Q) : Ev d scr y pc L (.float x :: r) M h D Q := by
  subst e
  exact ev_step (fun K Q1 hk => by unfold stepP; rw [ht]; exact ⟨rfl, hn, x, r, rfl, by rw [hL]; exact hk⟩) k
theorem ev_dstore {n : Nat} {x : UInt64} {L1 : Lc} (hn : n + 1 < mml y) (hL : st2 L n (.double x) = L1) (ht : TB y pc = some (.dstore n, 2)) (e : pc + 2 = pc1) (k : Ev d scr y pc1 L1 (r) M h D Q) : Ev d scr y pc L (.double x :: r) M h D Q := by
  subst e
  exact ev_step (fun K Q1 hk => by unfold stepP; rw [ht]; exact ⟨rfl, hn, x, r, rfl, by rw [hL]; exact hk⟩) k
theorem ev_iinc {n : Nat} {c : Int} {x cc : Int32} {L1 : Lc} (hv : lk L n = some (.int x)) (hn : n < mml y) (hc : Int32.ofInt c = cc) (hL : st1 L n (.int (x + cc)) = L1) (ht : TB y pc = some (.iinc n c, 3)) (e : pc + 3 = pc1) (k : Ev d scr y pc1 L1 (r) M h D Q) : Ev d scr y pc L (r) M h D Q := by
  subst e
  exact ev_step (fun K Q1 hk => by unfold stepP; rw [ht]; exact ⟨rfl, hn, x, hv, by rw [hc, hL]; exact hk⟩) k
theorem ev_iconst {c : Int} {x : Int32} (hx : Int32.ofInt c = x) (ht : TB y pc = some (.iconst c, 1)) (e : pc + 1 = pc1) (k : Ev d scr y pc1 L (.int x :: r) M h D Q) : Ev d scr y pc L (r) M h D Q := by
  subst e
  exact ev_step (fun K Q1 hk => by unfold stepP; rw [ht]; exact ⟨rfl, by rw [hx]; exact hk⟩) k
theorem ev_bipush {c : Int} {x : Int32} (hx : (Int8.ofInt c).toInt32 = x) (ht : TB y pc = some (.bipush c, 2)) (e : pc + 2 = pc1) (k : Ev d scr y pc1 L (.int x :: r) M h D Q) : Ev d scr y pc L (r) M h D Q := by
  subst e
  exact ev_step (fun K Q1 hk => by unfold stepP; rw [ht]; exact ⟨rfl, by rw [hx]; exact hk⟩) k
theorem ev_sipush {c : Int} {x : Int32} (hx : (Int16.ofInt c).toInt32 = x) (ht : TB y pc = some (.sipush c, 3)) (e : pc + 3 = pc1) (k : Ev d scr y pc1 L (.int x :: r) M h D Q) : Ev d scr y pc L (r) M h D Q := by
  subst e
  exact ev_step (fun K Q1 hk => by unfold stepP; rw [ht]; exact ⟨rfl, by rw [hx]; exact hk⟩) k
theorem ev_ldc {c : Nat} {x : Int32} (hx : cst (mown y) c = some (.int x)) (ht : TB y pc = some (.ldc c, 2)) (e : pc + 2 = pc1) (k : Ev d scr y pc1 L (.int x :: r) M h D Q) : Ev d scr y pc L (r) M h D Q := by
  subst e
  exact ev_step (fun K Q1 hk => by unfold stepP; rw [ht]; exact ⟨rfl, Or.inl ⟨x, hx, hk⟩⟩) k
theorem ev_ldcf {c : Nat} {x : UInt32} (hx : cst (mown y) c = some (.float x)) (ht : TB y pc = some (.ldc c, 2)) (e : pc + 2 = pc1) (k : Ev d scr y pc1 L (.float x :: r) M h D Q) : Ev d scr y pc L (r) M h D Q := by
  subst e
  exact ev_step (fun K Q1 hk => by unfold stepP; rw [ht]; exact ⟨rfl, Or.inr ⟨x, hx, hk⟩⟩) k
theorem ev_ldc_w {c : Nat} {x : Int32} (hx : cst (mown y) c = some (.int x)) (ht : TB y pc = some (.ldc_w c, 3)) (e : pc + 3 = pc1) (k : Ev d scr y pc1 L (.int x :: r) M h D Q) : Ev d scr y pc L (r) M h D Q := by
  subst e
  exact ev_step (fun K Q1 hk => by unfold stepP; rw [ht]; exact ⟨rfl, x, hx, hk⟩) k
theorem ev_ldc2_w {c : Nat} {x : UInt64} (hx : cst (mown y) c = some (.double x)) (ht : TB y pc = some (.ldc2_w c, 3)) (e : pc + 3 = pc1) (k : Ev d scr y pc1 L (.double x :: r) M h D Q) : Ev d scr y pc L (r) M h D Q := by
  subst e
  exact ev_step (fun K Q1 hk => by unfold stepP; rw [ht]; exact ⟨rfl, x, hx, hk⟩) k
theorem ev_fconst0  (ht : TB y pc = some (.fconst 0, 1)) (e : pc + 1 = pc1) (k : Ev d scr y pc1 L (.float FP.fconst0 :: r) M h D Q) : Ev d scr y pc L (r) M h D Q := by
  subst e
  exact ev_step (fun K Q1 hk => by unfold stepP; rw [ht]; exact ⟨rfl, Or.inl ⟨rfl, hk⟩⟩) k
theorem ev_fconst1  (ht : TB y pc = some (.fconst 1, 1)) (e : pc + 1 = pc1) (k : Ev d scr y pc1 L (.float FP.fconst1 :: r) M h D Q) : Ev d scr y pc L (r) M h D Q := by
  subst e
  exact ev_step (fun K Q1 hk => by unfold stepP; rw [ht]; exact ⟨rfl, Or.inr (Or.inl ⟨rfl, hk⟩)⟩) k
theorem ev_fconst2  (ht : TB y pc = some (.fconst 2, 1)) (e : pc + 1 = pc1) (k : Ev d scr y pc1 L (.float FP.fconst2 :: r) M h D Q) : Ev d scr y pc L (r) M h D Q := by
  subst e
  exact ev_step (fun K Q1 hk => by unfold stepP; rw [ht]; exact ⟨rfl, Or.inr (Or.inr ⟨rfl, hk⟩)⟩) k
theorem ev_dconst0  (ht : TB y pc = some (.dconst 0, 1)) (e : pc + 1 = pc1) (k : Ev d scr y pc1 L (.double FP.dconst0 :: r) M h D Q) : Ev d scr y pc L (r) M h D Q := by
  subst e
  exact ev_step (fun K Q1 hk => by unfold stepP; rw [ht]; exact ⟨rfl, Or.inl ⟨rfl, hk⟩⟩) k
theorem ev_dconst1  (ht : TB y pc = some (.dconst 1, 1)) (e : pc + 1 = pc1) (k : Ev d scr y pc1 L (.double FP.dconst1 :: r) M h D Q) : Ev d scr y pc L (r) M h D Q := by
  subst e
  exact ev_step (fun K Q1 hk => by unfold stepP; rw [ht]; exact ⟨rfl, Or.inr ⟨rfl, hk⟩⟩) k
theorem ev_iadd {a b : Int32} (ht : TB y pc = some (.iadd, 1)) (e : pc + 1 = pc1) (k : Ev d scr y pc1 L (.int (a + b) :: r) M h D Q) : Ev d scr y pc L (.int b :: .int a :: r) M h D Q := by
  subst e
  exact ev_step (fun K Q1 hk => by unfold stepP; rw [ht]; exact ⟨rfl, a, b, r, rfl, hk⟩) k
theorem ev_isub {a b : Int32} (ht : TB y pc = some (.isub, 1)) (e : pc + 1 = pc1) (k : Ev d scr y pc1 L (.int (a - b) :: r) M h D Q) : Ev d scr y pc L (.int b :: .int a :: r) M h D Q := by
  subst e
  exact ev_step (fun K Q1 hk => by unfold stepP; rw [ht]; exact ⟨rfl, a, b, r, rfl, hk⟩) k
theorem ev_imul {a b : Int32} (ht : TB y pc = some (.imul, 1)) (e : pc + 1 = pc1) (k : Ev d scr y pc1 L (.int (a * b) :: r) M h D Q) : Ev d scr y pc L (.int b :: .int a :: r) M h D Q := by
  subst e
  exact ev_step (fun K Q1 hk => by unfold stepP; rw [ht]; exact ⟨rfl, a, b, r, rfl, hk⟩) k
theorem ev_iand {a b : Int32} (ht : TB y pc = some (.iand, 1)) (e : pc + 1 = pc1) (k : Ev d scr y pc1 L (.int (a &&& b) :: r) M h D Q) : Ev d scr y pc L (.int b :: .int a :: r) M h D Q := by
  subst e
  exact ev_step (fun K Q1 hk => by unfold stepP; rw [ht]; exact ⟨rfl, a, b, r, rfl, hk⟩) k
theorem ev_ior {a b : Int32} (ht : TB y pc = some (.ior, 1)) (e : pc + 1 = pc1) (k : Ev d scr y pc1 L (.int (a ||| b) :: r) M h D Q) : Ev d scr y pc L (.int b :: .int a :: r) M h D Q := by
  subst e
  exact ev_step (fun K Q1 hk => by unfold stepP; rw [ht]; exact ⟨rfl, a, b, r, rfl, hk⟩) k
theorem ev_ixor {a b : Int32} (ht : TB y pc = some (.ixor, 1)) (e : pc + 1 = pc1) (k : Ev d scr y pc1 L (.int (a ^^^ b) :: r) M h D Q) : Ev d scr y pc L (.int b :: .int a :: r) M h D Q := by
  subst e
  exact ev_step (fun K Q1 hk => by unfold stepP; rw [ht]; exact ⟨rfl, a, b, r, rfl, hk⟩) k
theorem ev_ishl {a b : Int32} (ht : TB y pc = some (.ishl, 1)) (e : pc + 1 = pc1) (k : Ev d scr y pc1 L (.int (a <<< (b &&& 31)) :: r) M h D Q) : Ev d scr y pc L (.int b :: .int a :: r) M h D Q := by
  subst e
  exact ev_step (fun K Q1 hk => by unfold stepP; rw [ht]; exact ⟨rfl, a, b, r, rfl, hk⟩) k
theorem ev_ishr {a b : Int32} (ht : TB y pc = some (.ishr, 1)) (e : pc + 1 = pc1) (k : Ev d scr y pc1 L (.int (a >>> (b &&& 31)) :: r) M h D Q) : Ev d scr y pc L (.int b :: .int a :: r) M h D Q := by
  subst e
  exact ev_step (fun K Q1 hk => by unfold stepP; rw [ht]; exact ⟨rfl, a, b, r, rfl, hk⟩) k
theorem ev_iushr {a b : Int32} (ht : TB y pc = some (.iushr, 1)) (e : pc + 1 = pc1) (k : Ev d scr y pc1 L (.int ((a.toUInt32 >>> (b.toUInt32 &&& Int32.toUInt32 31)).toInt32) :: r) M h D Q) : Ev d scr y pc L (.int b :: .int a :: r) M h D Q := by
  subst e
  exact ev_step (fun K Q1 hk => by unfold stepP; rw [ht]; exact ⟨rfl, a, b, r, rfl, hk⟩) k
theorem ev_irem {a b : Int32} (hn : b ≠ 0) (ht : TB y pc = some (.irem, 1)) (e : pc + 1 = pc1) (k : Ev d scr y pc1 L (.int (a - a / b * b) :: r) M h D Q) : Ev d scr y pc L (.int b :: .int a :: r) M h D Q := by
  subst e
  exact ev_step (fun K Q1 hk => by unfold stepP; rw [ht]; exact ⟨rfl, a, b, r, rfl, hn, hk⟩) k
theorem ev_i2d {a : Int32} (ht : TB y pc = some (.i2d, 1)) (e : pc + 1 = pc1) (k : Ev d scr y pc1 L (.double (FP.i2d a) :: r) M h D Q) : Ev d scr y pc L (.int a :: r) M h D Q := by
  subst e
  exact ev_step (fun K Q1 hk => by unfold stepP; rw [ht]; exact ⟨rfl, a, r, rfl, hk⟩) k
theorem ev_f2i {a : UInt32} (ht : TB y pc = some (.f2i, 1)) (e : pc + 1 = pc1) (k : Ev d scr y pc1 L (.int (FP.f2i a) :: r) M h D Q) : Ev d scr y pc L (.float a :: r) M h D Q := by
  subst e
  exact ev_step (fun K Q1 hk => by unfold stepP; rw [ht]; exact ⟨rfl, a, r, rfl, hk⟩) k
theorem ev_d2f {a : UInt64} (hn : vf_n32 (FP.d2f a)) (ht : TB y pc = some (.d2f, 1)) (e : pc + 1 = pc1) (k : Ev d scr y pc1 L (.float (FP.d2f a) :: r) M h D Q) : Ev d scr y pc L (.double a :: r) M h D Q := by
  subst e
  exact ev_step (fun K Q1 hk => by unfold stepP; rw [ht]; exact ⟨rfl, a, r, rfl, hn, hk⟩) k
theorem ev_dadd {a b : UInt64} (hn : vf_n64 (FP.dadd a b)) (ht : TB y pc = some (.dadd, 1)) (e : pc + 1 = pc1) (k : Ev d scr y pc1 L (.double (FP.dadd a b) :: r) M h D Q) : Ev d scr y pc L (.double b :: .double a :: r) M h D Q := by
  subst e
  exact ev_step (fun K Q1 hk => by unfold stepP; rw [ht]; exact ⟨rfl, a, b, r, rfl, hn, hk⟩) k
theorem ev_ddiv {a b : UInt64} (hn : vf_n64 (FP.ddiv a b)) (ht : TB y pc = some (.ddiv, 1)) (e : pc + 1 = pc1) (k : Ev d scr y pc1 L (.double (FP.ddiv a b) :: r) M h D Q) : Ev d scr y pc L (.double b :: .double a :: r) M h D Q := by
  subst e
  exact ev_step (fun K Q1 hk => by unfold stepP; rw [ht]; exact ⟨rfl, a, b, r, rfl, hn, hk⟩) k
theorem ev_fsub {a b : UInt32} (hn : vf_n32 (FP.fsub a b)) (ht : TB y pc = some (.fsub, 1)) (e : pc + 1 = pc1) (k : Ev d scr y pc1 L (.float (FP.fsub a b) :: r) M h D Q) : Ev d scr y pc L (.float b :: .float a :: r) M h D Q := by
  subst e
  exact ev_step (fun K Q1 hk => by unfold stepP; rw [ht]; exact ⟨rfl, a, b, r, rfl, hn, hk⟩) k
theorem ev_fmul {a b : UInt32} (hn : vf_n32 (FP.fmul a b)) (ht : TB y pc = some (.fmul, 1)) (e : pc + 1 = pc1) (k : Ev d scr y pc1 L (.float (FP.fmul a b) :: r) M h D Q) : Ev d scr y pc L (.float b :: .float a :: r) M h D Q := by
  subst e
  exact ev_step (fun K Q1 hk => by unfold stepP; rw [ht]; exact ⟨rfl, a, b, r, rfl, hn, hk⟩) k
theorem ev_fdiv {a b : UInt32} (hn : vf_n32 (FP.fdiv a b)) (ht : TB y pc = some (.fdiv, 1)) (e : pc + 1 = pc1) (k : Ev d scr y pc1 L (.float (FP.fdiv a b) :: r) M h D Q) : Ev d scr y pc L (.float b :: .float a :: r) M h D Q := by
  subst e
  exact ev_step (fun K Q1 hk => by unfold stepP; rw [ht]; exact ⟨rfl, a, b, r, rfl, hn, hk⟩) k
theorem ev_fcmp {a b : UInt32} {op : CmpOp} (ht : TB y pc = some (.fcmp op, 1)) (e : pc + 1 = pc1) (k : Ev d scr y pc1 L (.int (Op.cmpValue (FP.fcmp a b) op) :: r) M h D Q) : Ev d scr y pc L (.float b :: .float a :: r) M h D Q := by
  subst e
  exact ev_step (fun K Q1 hk => by unfold stepP; rw [ht]; exact ⟨rfl, a, b, r, rfl, hk⟩) k
theorem ev_dcmp {a b : UInt64} {op : CmpOp} (ht : TB y pc = some (.dcmp op, 1)) (e : pc + 1 = pc1) (k : Ev d scr y pc1 L (.int (Op.cmpValue (FP.dcmp a b) op) :: r) M h D Q) : Ev d scr y pc L (.double b :: .double a :: r) M h D Q := by
  subst e
  exact ev_step (fun K Q1 hk => by unfold stepP; rw [ht]; exact ⟨rfl, a, b, r, rfl, hk⟩) k
theorem ev_dup {v : Value} (hv : v.category = 1) (ht : TB y pc = some (.dup, 1)) (e : pc + 1 = pc1) (k : Ev d scr y pc1 L (v :: v :: r) M h D Q) : Ev d scr y pc L (v :: r) M h D Q := by
  subst e
  exact ev_step (fun K Q1 hk => by unfold stepP; rw [ht]; exact ⟨rfl, v, r, rfl, hv, hk⟩) k
theorem ev_dup2 {v w : Value} (hv : v.category = 1) (hw : w.category = 1) (ht : TB y pc = some (.dup2, 1)) (e : pc + 1 = pc1) (k : Ev d scr y pc1 L (v :: w :: v :: w :: r) M h D Q) : Ev d scr y pc L (v :: w :: r) M h D Q := by
  subst e
  exact ev_step (fun K Q1 hk => by unfold stepP; rw [ht]; exact ⟨rfl, v, w, r, rfl, hv, hw, hk⟩) k
theorem ev_ifnull {c : Nat} {off : Int} (ht : TB y pc = some (.ifnull off, 3)) (e : pc + 3 = pc1) (k : Ev d scr y pc1 L (r) M h D Q) : Ev d scr y pc L (.ref c :: r) M h D Q := by
  subst e
  exact ev_step (fun K Q1 hk => by unfold stepP; rw [ht]; exact ⟨rfl, c, r, rfl, hk⟩) k
theorem tg_ok {off : Int} {t : Nat} (ht : (pc : Int) + off = (t : Int)) : tgOk pc off ∧ tg pc off = t := by
  have h1 : tg pc off = t := by unfold tg; rw [ht]; rfl
  exact ⟨by unfold tgOk; rw [h1]; exact ht, h1⟩
theorem ev_goto {off : Int} (ht : TB y pc = some (.goto off, 3)) (e : (pc : Int) + off = (pc1 : Int)) (k : Ev d scr y pc1 L r M h D Q) : Ev d scr y pc L r M h D Q := by
  obtain ⟨h1, h2⟩ := tg_ok e
  exact ev_step (fun K Q1 hk => by unfold stepP; rw [ht]; exact ⟨rfl, h1, by rw [h2]; exact hk⟩) k
theorem ev_if {q : ClassFile.Cond} {off : Int} {x : Int32} {t : Nat} (ht : TB y pc = some (.ifCond q off, 3)) (e1 : (pc : Int) + off = (t : Int)) (e : pc + 3 = pc1) (k1 : cnd q x 0 → Ev d scr y t L r M h D Q) (k2 : ¬ cnd q x 0 → Ev d scr y pc1 L r M h D Q) : Ev d scr y pc L (.int x :: r) M h D Q := by
  subst e
  obtain ⟨h1, h2⟩ := tg_ok e1
  by_cases hc : cnd q x 0
  · exact ev_step (fun K Q1 hk => by unfold stepP; rw [ht]; exact ⟨rfl, h1, x, r, rfl, fun _ => by rw [h2]; exact hk, fun z => absurd hc z⟩) (k1 hc)
  · exact ev_step (fun K Q1 hk => by unfold stepP; rw [ht]; exact ⟨rfl, h1, x, r, rfl, fun z => absurd z hc, fun _ => hk⟩) (k2 hc)
theorem ev_icmp {q : ClassFile.Cond} {off : Int} {a b : Int32} {t : Nat} (ht : TB y pc = some (.if_icmp q off, 3)) (e1 : (pc : Int) + off = (t : Int)) (e : pc + 3 = pc1) (k1 : cnd q a b → Ev d scr y t L r M h D Q) (k2 : ¬ cnd q a b → Ev d scr y pc1 L r M h D Q) : Ev d scr y pc L (.int b :: .int a :: r) M h D Q := by
  subst e
  obtain ⟨h1, h2⟩ := tg_ok e1
  by_cases hc : cnd q a b
  · exact ev_step (fun K Q1 hk => by unfold stepP; rw [ht]; exact ⟨rfl, h1, a, b, r, rfl, fun _ => by rw [h2]; exact hk, fun z => absurd hc z⟩) (k1 hc)
  · exact ev_step (fun K Q1 hk => by unfold stepP; rw [ht]; exact ⟨rfl, h1, a, b, r, rfl, fun z => absurd z hc, fun _ => hk⟩) (k2 hc)
/-- a table: the places in their order; what is in none goes on at the default -/
theorem ev_table {dd lo hi : Int} {offs : Array Int} {n : Nat} {x : Int32} (ht : TB y pc = some (.tableswitch dd lo hi offs, n)) (k1 : (x.toInt < lo ∨ hi < x.toInt) → ∃ t : Nat, (pc : Int) + dd = (t : Int) ∧ Ev d scr y t L r M h D Q) (k2 : ¬ (x.toInt < lo ∨ hi < x.toInt) → ∃ (off : Int) (t : Nat), offs[(x.toInt - lo).toNat]? = some off ∧ (pc : Int) + off = (t : Int) ∧ Ev d scr y t L r M h D Q) : Ev d scr y pc L (.int x :: r) M h D Q := by
  by_cases hc : x.toInt < lo ∨ hi < x.toInt
  · obtain ⟨t, e, k⟩ := k1 hc
    obtain ⟨h1, h2⟩ := tg_ok e
    exact ev_step (fun K Q1 hk => by unfold stepP; rw [ht]; exact ⟨x, r, rfl, fun _ => ⟨h1, by rw [h2]; exact hk⟩, fun z => absurd hc z⟩) k
  · obtain ⟨off, t, ho, e, k⟩ := k2 hc
    obtain ⟨h1, h2⟩ := tg_ok e
    exact ev_step (fun K Q1 hk => by unfold stepP; rw [ht]; exact ⟨x, r, rfl, fun z => absurd z hc, fun _ => ⟨off, ho, h1, by rw [h2]; exact hk⟩⟩) k
theorem ev_lookup {dd : Int} {ps : Array (Int × Int)} {n t : Nat} {x : Int32} (ht : TB y pc = some (.lookupswitch dd ps, n)) (ho : (ps.toList.zip (ps.toList.drop 1)).all (fun (a, next) => a.1 < next.1) = true) (e : (pc : Int) + Op.lookupswitch.offset ps.toList dd x.toInt = (t : Int)) (k : Ev d scr y t L r M h D Q) : Ev d scr y pc L (.int x :: r) M h D Q := by
  obtain ⟨h1, h2⟩ := tg_ok e
  exact ev_step (fun K Q1 hk => by unfold stepP; rw [ht]; exact ⟨ho, x, r, rfl, h1, by rw [h2]; exact hk⟩) k
theorem ev_ireturn {x : Int32} (ht : TB y pc = some (.ireturn, 1)) (hr : retI y x) (hq : Q (some (.int x)) M h D) : Ev d scr y pc L [.int x] M h D Q :=
  ev_ret (fun K Q1 hk => by unfold stepP; rw [ht]; exact ⟨rfl, x, rfl, hr, hk⟩) hq
theorem ev_dreturn {x : UInt64} (ht : TB y pc = some (.dreturn, 1)) (hr : mrt y = some .double) (hq : Q (some (.double x)) M h D) : Ev d scr y pc L [.double x] M h D Q :=
  ev_ret (fun K Q1 hk => by unfold stepP; rw [ht]; exact ⟨rfl, x, rfl, hr, hk⟩) hq
theorem ev_return (ht : TB y pc = some (.return_, 1)) (hr : mrt y = none) (hq : Q none M h D) : Ev d scr y pc L [] M h D Q :=
  ev_ret (fun K Q1 hk => by unfold stepP; rw [ht]; exact ⟨rfl, rfl, hr, hk⟩) hq
theorem retI_i {x : Int32} (h : mrt y = some .int) : retI y x := Or.inl h
theorem retI_z {x : Int32} (h : mrt y = some .boolean) (hx : x = 0 ∨ x = 1) : retI y x := Or.inr ⟨h, hx⟩
theorem ev_getI {ix c ci k : Nat} (ht : TB y pc = some (.getfield ix, 3)) (e : pc + 3 = pc1) (hf : fld (mown y) ix = some (ci, k)) (hc : c < 73) (hs : SH c = (0, ci)) (hk : k < nf ci) (hi : fkd ci k ≠ 2) (kk : Ev d scr y pc1 L (.int (M c k) :: r) M h D Q) : Ev d scr y pc L (.ref c :: r) M h D Q := by
  subst e
  have e2 : fv (rs M h D) c ci k = .int (M c k) := by
    unfold fv
    split
    · exact absurd (by assumption) hi
    · rfl
  exact ev_step (fun K Q1 hk2 => by unfold stepP; rw [ht]; exact ⟨rfl, c, r, ci, k, rfl, hf, hc, hs, hk, by rw [e2]; exact hk2⟩) kk
theorem ev_getP {ix c ci k a : Nat} (ht : TB y pc = some (.getfield ix, 3)) (e : pc + 3 = pc1) (hf : fld (mown y) ix = some (ci, k)) (hc : c < 73) (hs : SH c = (0, ci)) (hk : k < nf ci) (hi : fkd ci k = 2) (h28 : c ≠ 28) (hp : PF c k = some a) (kk : Ev d scr y pc1 L (.ref a :: r) M h D Q) : Ev d scr y pc L (.ref c :: r) M h D Q := by
  subst e
  have e2 : fv (rs M h D) c ci k = .ref a := by
    unfold fv
    rw [hi]
    show vrf (PH h c k) = _
    rw [PH_ne h28, hp]
    rfl
  exact ev_step (fun K Q1 hk2 => by unfold stepP; rw [ht]; exact ⟨rfl, c, r, ci, k, rfl, hf, hc, hs, hk, by rw [e2]; exact hk2⟩) kk
theorem ev_putI {ix c ci k : Nat} {x : Int32} (ht : TB y pc = some (.putfield ix, 3)) (e : pc + 3 = pc1) (hf : fld (mown y) ix = some (ci, k)) (hc : c < 73) (hs : SH c = (0, ci)) (hk : k < nf ci) (hi : fkd ci k = 0) (hn : fin ci k = false) (kk : Ev d scr y pc1 L r (up2 M c k x) h D Q) : Ev d scr y pc L (.int x :: .ref c :: r) M h D Q := by
  subst e
  exact ev_step (fun K Q1 hk2 => by unfold stepP; rw [ht]; exact ⟨rfl, _, c, r, ci, k, rfl, hf, hc, hs, hk, (fun z => by rw [hn] at z; cases z), Or.inl ⟨x, rfl, hi, hk2⟩⟩) kk
theorem ev_putZ {ix c ci k : Nat} {x : Int32} (ht : TB y pc = some (.putfield ix, 3)) (e : pc + 3 = pc1) (hf : fld (mown y) ix = some (ci, k)) (hc : c < 73) (hs : SH c = (0, ci)) (hk : k < nf ci) (hi : fkd ci k = 1) (hn : fin ci k = false) (hx : x = 0 ∨ x = 1) (kk : Ev d scr y pc1 L r (up2 M c k x) h D Q) : Ev d scr y pc L (.int x :: .ref c :: r) M h D Q := by
  subst e
  exact ev_step (fun K Q1 hk2 => by unfold stepP; rw [ht]; exact ⟨rfl, _, c, r, ci, k, rfl, hf, hc, hs, hk, (fun z => by rw [hn] at z; cases z), Or.inr (Or.inl ⟨x, rfl, hi, hx, hk2⟩)⟩) kk
theorem ev_iaload {i : Int32} {c n : Nat} (ht : TB y pc = some (.iaload, 1)) (e : pc + 1 = pc1) (hc : c < 73) (hs : SH c = (1, n)) (hi : vp_in i n) (kk : Ev d scr y pc1 L (.int (M c i.toNatClampNeg) :: r) M h D Q) : Ev d scr y pc L (.int i :: .ref c :: r) M h D Q := by
  subst e
  exact ev_step (fun K Q1 hk2 => by unfold stepP; rw [ht]; exact ⟨rfl, Or.inl ⟨i, c, r, rfl, hc, by rw [hs], by rw [hs]; exact hi, hk2⟩⟩) kk
theorem ev_saload {i : Int32} {a n : Nat} {xs : Nat → Int32} (ht : TB y pc = some (.iaload, 1)) (e : pc + 1 = pc1) (hs : scr = some (n, xs)) (hi : vp_in i n) (kk : Ev d scr y pc1 L (.int (xs i.toNatClampNeg) :: r) M h D Q) : Ev d scr y pc L (.int i :: .retAddr a :: r) M h D Q := by
  subst e
  exact ev_step (fun K Q1 hk2 => by unfold stepP; rw [ht]; exact ⟨rfl, Or.inr ⟨i, a, r, n, xs, rfl, hs, hi, hk2⟩⟩) kk
theorem ev_slen {a n : Nat} {xs : Nat → Int32} (ht : TB y pc = some (.arraylength, 1)) (e : pc + 1 = pc1) (hs : scr = some (n, xs)) (kk : Ev d scr y pc1 L (.int (Int32.ofNat n) :: r) M h D Q) : Ev d scr y pc L (.retAddr a :: r) M h D Q := by
  subst e
  exact ev_step (fun K Q1 hk2 => by unfold stepP; rw [ht]; exact ⟨rfl, a, r, n, xs, rfl, hs, hk2⟩) kk
/-- a place of the history -/
theorem ev_aaload {i : Int32} {a : Nat} (ht : TB y pc = some (.aaload, 1)) (e : pc + 1 = pc1) (hi : vp_in i 4) (ha : h i.toNatClampNeg = some a) (kk : Ev d scr y pc1 L (.ref a :: r) M h D Q) : Ev d scr y pc L (.int i :: .ref 28 :: r) M h D Q := by
  subst e
  have e2 : vrf ((rs M h D).2.2.1 28 i.toNatClampNeg) = .ref a := by
    show vrf (PH h 28 _) = _
    rw [PH_28, ha]; rfl
  exact ev_step (fun K Q1 hk2 => by unfold stepP; rw [ht]; exact ⟨rfl, i, 28, r, rfl, (by decide : 28 < 73), rfl, hi, by rw [e2]; exact hk2⟩) kk
theorem ev_aastore {i : Int32} {a : Nat} (ht : TB y pc = some (.aastore, 1)) (e : pc + 1 = pc1) (hi : vp_in i 4) (ha : a < 73) (hsa : SH a = (0, 2)) (kk : Ev d scr y pc1 L r M (va_up h i.toNatClampNeg (some a)) D Q) : Ev d scr y pc L (.ref a :: .int i :: .ref 28 :: r) M h D Q := by
  subst e
  exact ev_step (fun K Q1 hk2 => by unfold stepP; rw [ht]; exact ⟨rfl, a, i, 28, r, rfl, (by decide : 28 < 73), rfl, hi, ha, hsa, by rw [setP_rs]; exact hk2⟩) kk
theorem ev_iastore {i x : Int32} {c n : Nat} (ht : TB y pc = some (.iastore, 1)) (e : pc + 1 = pc1) (hc : c < 73) (hs : SH c = (1, n)) (hi : vp_in i n) (kk : Ev d scr y pc1 L r (up2 M c i.toNatClampNeg x) h D Q) : Ev d scr y pc L (.int x :: .int i :: .ref c :: r) M h D Q := by
  subst e
  exact ev_step (fun K Q1 hk2 => by unfold stepP; rw [ht]; exact ⟨rfl, x, i, c, r, rfl, hc, by rw [hs], by rw [hs]; exact hi, hk2⟩) kk
theorem ev_copy {z : Int32} {c0 c1 n0 n1 ix n : Nat} (ht : TB y pc = some (.invokestatic ix, 3)) (e : pc + 3 = pc1) (hl : lnk (mown y) ix = some (6, 0)) (hst : stw r ≤ 8) (hd : 1 ≤ d) (hc0 : c0 < 73) (hc1 : c1 < 73) (hs0 : SH c0 = (1, n0)) (hs1 : SH c1 = (1, n1)) (hz : z = nI n) (hn : n < 100) (h0 : n ≤ n0) (h1 : n ≤ n1) (kk : Ev d scr y pc1 L r (cp2 M c0 0 c1 0 n) h D Q) : Ev d scr y pc L (.int z :: .int 0 :: .ref c1 :: .int 0 :: .ref c0 :: r) M h D Q := by
  subst e
  subst hz
  have e1 : (nI n).toNatClampNeg = n := nI_clamp (by omega)
  have e0 : (0 : Int32).toNatClampNeg = 0 := by decide
  exact ev_step (fun K Q1 hk2 => by unfold stepP; rw [ht]; exact ⟨rfl, Or.inr (Or.inl ⟨nI n, 0, c1, 0, c0, r, hl, rfl, hst, hd, hc0, hc1, by rw [hs0], by rw [hs1], by decide, by decide, nI_pos (by omega), by rw [e0, e1, hs0]; omega, by rw [e0, e1, hs1]; omega, by rw [e0, e1]; exact hk2⟩)⟩) kk
theorem ev_max {a b : Int32} {ix y1 : Nat} (ht : TB y pc = some (.invokestatic ix, 3)) (e : pc + 3 = pc1) (hl : lnk (mown y) ix = some (8, y1)) (hst : stw r ≤ 8) (hd : 1 ≤ d) (kk : Ev d scr y pc1 L (.int (if a < b then b else a) :: r) M h D Q) : Ev d scr y pc L (.int b :: .int a :: r) M h D Q := by
  subst e
  exact ev_step (fun K Q1 hk2 => by unfold stepP; rw [ht]; exact ⟨rfl, Or.inr (Or.inr ⟨a, b, r, y1, hl, rfl, hst, hd, Nat.le_refl _, hk2⟩)⟩) kk
/-! calls -/
theorem ev_callv {ix y1 c : Nat} {v : Option Value} {M1 : Im} {h1 : Hm} {D1 : Dm} (ht : TB y pc = some (.invokevirtual ix, 3)) (e : pc + 3 = pc1) (hl : lnk (mown y) ix = some (0, y1)) (hst : st = as.reverse ++ .ref c :: r) (hn : as.length = mna y1) (hc : c < 73) (hs : SH c = (0, mown y1)) (hw : stw r ≤ 8) (he : ExecS scr d y1 (.ref c :: as) (rs M h D) v (rs M1 h1 D1)) (kk : Ev d scr y pc1 L (v.toList ++ r) M1 h1 D1 Q) : Ev d scr y pc L st M h D Q := by
  subst e
  exact ev_step (fun K Q1 hk2 => by unfold stepP; rw [ht]; exact ⟨rfl, y1, as, c, r, v, _, hl, hst, hn, hc, hs, hw, he, Nat.le_refl _, hk2⟩) kk
theorem ev_calls {ix y1 kd : Nat} {v : Option Value} {M1 : Im} {h1 : Hm} {D1 : Dm} (ht : TB y pc = some (.invokestatic ix, 3)) (e : pc + 3 = pc1) (hl : lnk (mown y) ix = some (kd, y1)) (hkd : kd = 1 ∨ kd = 3) (hst : st = as.reverse ++ r) (hn : as.length = mna y1) (hw : stw r ≤ 8) (he : ExecS scr d y1 as (rs M h D) v (rs M1 h1 D1)) (kk : Ev d scr y pc1 L (v.toList ++ r) M1 h1 D1 Q) : Ev d scr y pc L st M h D Q := by
  subst e
  exact ev_step (fun K Q1 hk2 => by unfold stepP; rw [ht]; exact ⟨rfl, Or.inl ⟨y1, as, r, v, _, kd, hl, hkd, hst, hn, hw, he, Nat.le_refl _, hk2⟩⟩) kk
theorem ev_callvI {ix y1 c : Nat} {K : Int32 → Im → Hm → Dm → Prop} (ht : TB y pc = some (.invokevirtual ix, 3)) (e : pc + 3 = pc1) (hl : lnk (mown y) ix = some (0, y1)) (hst : st = as.reverse ++ .ref c :: r) (hn : as.length = mna y1) (hc : c < 73) (hs : SH c = (0, mown y1)) (hw : stw r ≤ 8) (H : CI d y1 (.ref c :: as) M h D K) (kk : ∀ x M1 h1 D1, K x M1 h1 D1 → Ev d scr y pc1 L (.int x :: r) M1 h1 D1 Q) : Ev d scr y pc L st M h D Q := by
  obtain ⟨x, M1, h1, D1, he, hq⟩ := H
  exact ev_callv ht e hl hst hn hc hs hw (exec_sc _ _ _ _ _ _ he) (kk x M1 h1 D1 hq)
theorem ev_callsI {ix y1 kd : Nat} {K : Int32 → Im → Hm → Dm → Prop} (ht : TB y pc = some (.invokestatic ix, 3)) (e : pc + 3 = pc1) (hl : lnk (mown y) ix = some (kd, y1)) (hkd : kd = 1 ∨ kd = 3) (hst : st = as.reverse ++ r) (hn : as.length = mna y1) (hw : stw r ≤ 8) (H : CI d y1 as M h D K) (kk : ∀ x M1 h1 D1, K x M1 h1 D1 → Ev d scr y pc1 L (.int x :: r) M1 h1 D1 Q) : Ev d scr y pc L st M h D Q := by
  obtain ⟨x, M1, h1, D1, he, hq⟩ := H
  exact ev_calls ht e hl hkd hst hn hw (exec_sc _ _ _ _ _ _ he) (kk x M1 h1 D1 hq)
theorem ev_callvD {ix y1 c : Nat} {K : UInt64 → Im → Hm → Dm → Prop} (ht : TB y pc = some (.invokevirtual ix, 3)) (e : pc + 3 = pc1) (hl : lnk (mown y) ix = some (0, y1)) (hst : st = as.reverse ++ .ref c :: r) (hn : as.length = mna y1) (hc : c < 73) (hs : SH c = (0, mown y1)) (hw : stw r ≤ 8) (H : CD d y1 (.ref c :: as) M h D K) (kk : ∀ x M1 h1 D1, K x M1 h1 D1 → Ev d scr y pc1 L (.double x :: r) M1 h1 D1 Q) : Ev d scr y pc L st M h D Q := by
  obtain ⟨x, M1, h1, D1, he, hq⟩ := H
  exact ev_callv ht e hl hst hn hc hs hw (exec_sc _ _ _ _ _ _ he) (kk x M1 h1 D1 hq)
theorem ev_callsD {ix y1 kd : Nat} {K : UInt64 → Im → Hm → Dm → Prop} (ht : TB y pc = some (.invokestatic ix, 3)) (e : pc + 3 = pc1) (hl : lnk (mown y) ix = some (kd, y1)) (hkd : kd = 1 ∨ kd = 3) (hst : st = as.reverse ++ r) (hn : as.length = mna y1) (hw : stw r ≤ 8) (H : CD d y1 as M h D K) (kk : ∀ x M1 h1 D1, K x M1 h1 D1 → Ev d scr y pc1 L (.double x :: r) M1 h1 D1 Q) : Ev d scr y pc L st M h D Q := by
  obtain ⟨x, M1, h1, D1, he, hq⟩ := H
  exact ev_calls ht e hl hkd hst hn hw (exec_sc _ _ _ _ _ _ he) (kk x M1 h1 D1 hq)
theorem ev_callvV {ix y1 c : Nat} {K : Im → Hm → Dm → Prop} (ht : TB y pc = some (.invokevirtual ix, 3)) (e : pc + 3 = pc1) (hl : lnk (mown y) ix = some (0, y1)) (hst : st = as.reverse ++ .ref c :: r) (hn : as.length = mna y1) (hc : c < 73) (hs : SH c = (0, mown y1)) (hw : stw r ≤ 8) (H : CV d y1 (.ref c :: as) M h D K) (kk : ∀ M1 h1 D1, K M1 h1 D1 → Ev d scr y pc1 L r M1 h1 D1 Q) : Ev d scr y pc L st M h D Q := by
  obtain ⟨M1, h1, D1, he, hq⟩ := H
  exact ev_callv ht e hl hst hn hc hs hw (exec_sc _ _ _ _ _ _ he) (kk M1 h1 D1 hq)
theorem ev_callsV {ix y1 kd : Nat} {K : Im → Hm → Dm → Prop} (ht : TB y pc = some (.invokestatic ix, 3)) (e : pc + 3 = pc1) (hl : lnk (mown y) ix = some (kd, y1)) (hkd : kd = 1 ∨ kd = 3) (hst : st = as.reverse ++ r) (hn : as.length = mna y1) (hw : stw r ≤ 8) (H : CV d y1 as M h D K) (kk : ∀ M1 h1 D1, K M1 h1 D1 → Ev d scr y pc1 L r M1 h1 D1 Q) : Ev d scr y pc L st M h D Q := by
  obtain ⟨M1, h1, D1, he, hq⟩ := H
  exact ev_calls ht e hl hkd hst hn hw (exec_sc _ _ _ _ _ _ he) (kk M1 h1 D1 hq)
theorem ev_callsS {ix y1 kd : Nat} {K : Int32 → Im → Hm → Dm → Prop} (ht : TB y pc = some (.invokestatic ix, 3)) (e : pc + 3 = pc1) (hl : lnk (mown y) ix = some (kd, y1)) (hkd : kd = 1 ∨ kd = 3) (hst : st = as.reverse ++ r) (hn : as.length = mna y1) (hw : stw r ≤ 8) (H : CIS scr d y1 as M h D K) (kk : ∀ x M1 h1 D1, K x M1 h1 D1 → Ev d scr y pc1 L (.int x :: r) M1 h1 D1 Q) : Ev d scr y pc L st M h D Q := by
  obtain ⟨x, M1, h1, D1, he, hq⟩ := H
  exact ev_calls ht e hl hkd hst hn hw he (kk x M1 h1 D1 hq)
end ER
/-! the seven States -/
def St (S : Nat) : Prop := S = 1 ∨ S = 10 ∨ S = 19 ∨ S = 37 ∨ S = 46 ∨ S = 55 ∨ S = 64
theorem St.lt {S : Nat} (h : St S) {j : Nat} (hj : j < 9) : S + j < 73 := by unfold St at h; omega
theorem St.lt0 {S : Nat} (h : St S) : S < 73 := h.lt (j := 0) (by decide)
theorem St.sh {S : Nat} (h : St S) : SH S = (0, 2) := by rcases h with rfl | rfl | rfl | rfl | rfl | rfl | rfl <;> rfl
theorem St.n28 {S : Nat} (h : St S) : S ≠ 28 := by unfold St at h; omega
theorem St.a1 {S : Nat} (h : St S) : SH (S + 1) = (1, 16) := by rcases h with rfl | rfl | rfl | rfl | rfl | rfl | rfl <;> rfl
theorem St.p7 {S : Nat} (h : St S) : PF S 7 = some (S + 1) := by rcases h with rfl | rfl | rfl | rfl | rfl | rfl | rfl <;> rfl
theorem St.a2 {S : Nat} (h : St S) : SH (S + 2) = (1, 16) := by rcases h with rfl | rfl | rfl | rfl | rfl | rfl | rfl <;> rfl
theorem St.p8 {S : Nat} (h : St S) : PF S 8 = some (S + 2) := by rcases h with rfl | rfl | rfl | rfl | rfl | rfl | rfl <;> rfl
theorem St.a3 {S : Nat} (h : St S) : SH (S + 3) = (1, 16) := by rcases h with rfl | rfl | rfl | rfl | rfl | rfl | rfl <;> rfl
theorem St.p9 {S : Nat} (h : St S) : PF S 9 = some (S + 3) := by rcases h with rfl | rfl | rfl | rfl | rfl | rfl | rfl <;> rfl
theorem St.a4 {S : Nat} (h : St S) : SH (S + 4) = (1, 16) := by rcases h with rfl | rfl | rfl | rfl | rfl | rfl | rfl <;> rfl
theorem St.p10 {S : Nat} (h : St S) : PF S 10 = some (S + 4) := by rcases h with rfl | rfl | rfl | rfl | rfl | rfl | rfl <;> rfl
theorem St.a5 {S : Nat} (h : St S) : SH (S + 5) = (1, 16) := by rcases h with rfl | rfl | rfl | rfl | rfl | rfl | rfl <;> rfl
theorem St.p11 {S : Nat} (h : St S) : PF S 11 = some (S + 5) := by rcases h with rfl | rfl | rfl | rfl | rfl | rfl | rfl <;> rfl
theorem St.a6 {S : Nat} (h : St S) : SH (S + 6) = (1, 16) := by rcases h with rfl | rfl | rfl | rfl | rfl | rfl | rfl <;> rfl
theorem St.p12 {S : Nat} (h : St S) : PF S 12 = some (S + 6) := by rcases h with rfl | rfl | rfl | rfl | rfl | rfl | rfl <;> rfl
theorem St.a7 {S : Nat} (h : St S) : SH (S + 7) = (1, 12) := by rcases h with rfl | rfl | rfl | rfl | rfl | rfl | rfl <;> rfl
theorem St.p13 {S : Nat} (h : St S) : PF S 13 = some (S + 7) := by rcases h with rfl | rfl | rfl | rfl | rfl | rfl | rfl <;> rfl
theorem St.a8 {S : Nat} (h : St S) : SH (S + 8) = (1, 12) := by rcases h with rfl | rfl | rfl | rfl | rfl | rfl | rfl <;> rfl
theorem St.p14 {S : Nat} (h : St S) : PF S 14 = some (S + 8) := by rcases h with rfl | rfl | rfl | rfl | rfl | rfl | rfl <;> rfl
end
section
/-! small facts of the tables, by name -/
theorem TBof {y : Nat} {tb : List (Option (Instr × Nat))} (h : TBS[y]? = some tb) (pc : Nat) {q : Instr × Nat} (hq : tb[pc]? = some (some q)) : TB y pc = some q := by
  unfold TB; rw [h]; dsimp only; rw [hq]
theorem fldof {y o ix : Nat} {q : Nat × Nat} (hm : mown y = o) (hf : fld o ix = some q) : fld (mown y) ix = some q := hm ▸ hf
theorem lnkof {y o ix : Nat} {q : Nat × Nat} (hm : mown y = o) (hf : lnk o ix = some q) : lnk (mown y) ix = some q := hm ▸ hf
theorem tbs_0 : TBS[0]? = some tb_0 := rfl
theorem mo_0 : mown 0 = 0 := rfl
theorem ml_0 : mml 0 = 1 := rfl
theorem rt_0 : mrt 0 = none := rfl
theorem na_0 : 0 = mna 0 := rfl
theorem tbs_1 : TBS[1]? = some tb_1 := rfl
theorem mo_1 : mown 1 = 1 := rfl
theorem ml_1 : mml 1 = 1 := rfl
theorem rt_1 : mrt 1 = none := rfl
theorem na_1 : 0 = mna 1 := rfl
theorem tbs_2 : TBS[2]? = some tb_2 := rfl
theorem mo_2 : mown 2 = 1 := rfl
theorem ml_2 : mml 2 = 5 := rfl
theorem rt_2 : mrt 2 = none := rfl
theorem na_2 : 2 = mna 2 := rfl
theorem tbs_3 : TBS[3]? = some tb_3 := rfl
theorem mo_3 : mown 3 = 1 := rfl
theorem ml_3 : mml 3 = 2 := rfl
theorem rt_3 : mrt 3 = (some .int) := rfl
theorem na_3 : 1 = mna 3 := rfl
theorem tbs_4 : TBS[4]? = some tb_4 := rfl
theorem mo_4 : mown 4 = 1 := rfl
theorem ml_4 : mml 4 = 4 := rfl
theorem rt_4 : mrt 4 = (some .int) := rfl
theorem na_4 : 1 = mna 4 := rfl
theorem tbs_5 : TBS[5]? = some tb_5 := rfl
theorem mo_5 : mown 5 = 1 := rfl
theorem ml_5 : mml 5 = 4 := rfl
theorem rt_5 : mrt 5 = (some .int) := rfl
theorem na_5 : 1 = mna 5 := rfl
theorem tbs_6 : TBS[6]? = some tb_6 := rfl
theorem mo_6 : mown 6 = 1 := rfl
theorem ml_6 : mml 6 = 3 := rfl
theorem rt_6 : mrt 6 = (some .boolean) := rfl
theorem na_6 : 2 = mna 6 := rfl
theorem tbs_7 : TBS[7]? = some tb_7 := rfl
theorem mo_7 : mown 7 = 1 := rfl
theorem ml_7 : mml 7 = 3 := rfl
theorem rt_7 : mrt 7 = none := rfl
theorem na_7 : 1 = mna 7 := rfl
theorem tbs_8 : TBS[8]? = some tb_8 := rfl
theorem mo_8 : mown 8 = 1 := rfl
theorem ml_8 : mml 8 = 5 := rfl
theorem rt_8 : mrt 8 = none := rfl
theorem na_8 : 2 = mna 8 := rfl
theorem tbs_9 : TBS[9]? = some tb_9 := rfl
theorem mo_9 : mown 9 = 1 := rfl
theorem ml_9 : mml 9 = 3 := rfl
theorem rt_9 : mrt 9 = none := rfl
theorem na_9 : 2 = mna 9 := rfl
theorem tbs_10 : TBS[10]? = some tb_10 := rfl
theorem mo_10 : mown 10 = 1 := rfl
theorem ml_10 : mml 10 = 4 := rfl
theorem rt_10 : mrt 10 = none := rfl
theorem na_10 : 2 = mna 10 := rfl
theorem tbs_11 : TBS[11]? = some tb_11 := rfl
theorem mo_11 : mown 11 = 1 := rfl
theorem ml_11 : mml 11 = 3 := rfl
theorem rt_11 : mrt 11 = none := rfl
theorem na_11 : 2 = mna 11 := rfl
theorem tbs_12 : TBS[12]? = some tb_12 := rfl
theorem mo_12 : mown 12 = 1 := rfl
theorem ml_12 : mml 12 = 3 := rfl
theorem rt_12 : mrt 12 = none := rfl
theorem na_12 : 2 = mna 12 := rfl
theorem tbs_13 : TBS[13]? = some tb_13 := rfl
theorem mo_13 : mown 13 = 2 := rfl
theorem ml_13 : mml 13 = 2 := rfl
theorem rt_13 : mrt 13 = none := rfl
theorem na_13 : 0 = mna 13 := rfl
theorem tbs_14 : TBS[14]? = some tb_14 := rfl
theorem mo_14 : mown 14 = 2 := rfl
theorem ml_14 : mml 14 = 2 := rfl
theorem rt_14 : mrt 14 = none := rfl
theorem na_14 : 1 = mna 14 := rfl
theorem tbs_15 : TBS[15]? = some tb_15 := rfl
theorem mo_15 : mown 15 = 2 := rfl
theorem ml_15 : mml 15 = 6 := rfl
theorem rt_15 : mrt 15 = none := rfl
theorem na_15 : 5 = mna 15 := rfl
theorem tbs_16 : TBS[16]? = some tb_16 := rfl
theorem mo_16 : mown 16 = 2 := rfl
theorem ml_16 : mml 16 = 4 := rfl
theorem rt_16 : mrt 16 = none := rfl
theorem na_16 : 2 = mna 16 := rfl
theorem tbs_17 : TBS[17]? = some tb_17 := rfl
theorem mo_17 : mown 17 = 2 := rfl
theorem ml_17 : mml 17 = 2 := rfl
theorem rt_17 : mrt 17 = none := rfl
theorem na_17 : 0 = mna 17 := rfl
theorem tbs_18 : TBS[18]? = some tb_18 := rfl
theorem mo_18 : mown 18 = 2 := rfl
theorem ml_18 : mml 18 = 2 := rfl
theorem rt_18 : mrt 18 = (some .boolean) := rfl
theorem na_18 : 1 = mna 18 := rfl
theorem tbs_19 : TBS[19]? = some tb_19 := rfl
theorem mo_19 : mown 19 = 2 := rfl
theorem ml_19 : mml 19 = 2 := rfl
theorem rt_19 : mrt 19 = (some .boolean) := rfl
theorem na_19 : 1 = mna 19 := rfl
theorem tbs_20 : TBS[20]? = some tb_20 := rfl
theorem mo_20 : mown 20 = 2 := rfl
theorem ml_20 : mml 20 = 2 := rfl
theorem rt_20 : mrt 20 = (some .boolean) := rfl
theorem na_20 : 1 = mna 20 := rfl
theorem tbs_21 : TBS[21]? = some tb_21 := rfl
theorem mo_21 : mown 21 = 2 := rfl
theorem ml_21 : mml 21 = 4 := rfl
theorem rt_21 : mrt 21 = (some .boolean) := rfl
theorem na_21 : 1 = mna 21 := rfl
theorem tbs_22 : TBS[22]? = some tb_22 := rfl
theorem mo_22 : mown 22 = 2 := rfl
theorem ml_22 : mml 22 = 2 := rfl
theorem rt_22 : mrt 22 = (some .boolean) := rfl
theorem na_22 : 1 = mna 22 := rfl
theorem tbs_23 : TBS[23]? = some tb_23 := rfl
theorem mo_23 : mown 23 = 2 := rfl
theorem ml_23 : mml 23 = 2 := rfl
theorem rt_23 : mrt 23 = (some .boolean) := rfl
theorem na_23 : 1 = mna 23 := rfl
theorem tbs_24 : TBS[24]? = some tb_24 := rfl
theorem mo_24 : mown 24 = 2 := rfl
theorem ml_24 : mml 24 = 2 := rfl
theorem rt_24 : mrt 24 = (some .boolean) := rfl
theorem na_24 : 1 = mna 24 := rfl
theorem tbs_25 : TBS[25]? = some tb_25 := rfl
theorem mo_25 : mown 25 = 2 := rfl
theorem ml_25 : mml 25 = 2 := rfl
theorem rt_25 : mrt 25 = (some .boolean) := rfl
theorem na_25 : 1 = mna 25 := rfl
theorem tbs_26 : TBS[26]? = some tb_26 := rfl
theorem mo_26 : mown 26 = 2 := rfl
theorem ml_26 : mml 26 = 3 := rfl
theorem rt_26 : mrt 26 = (some .boolean) := rfl
theorem na_26 : 1 = mna 26 := rfl
theorem tbs_27 : TBS[27]? = some tb_27 := rfl
theorem mo_27 : mown 27 = 2 := rfl
theorem ml_27 : mml 27 = 2 := rfl
theorem rt_27 : mrt 27 = (some .boolean) := rfl
theorem na_27 : 1 = mna 27 := rfl
theorem tbs_28 : TBS[28]? = some tb_28 := rfl
theorem mo_28 : mown 28 = 2 := rfl
theorem ml_28 : mml 28 = 2 := rfl
theorem rt_28 : mrt 28 = none := rfl
theorem na_28 : 1 = mna 28 := rfl
theorem tbs_29 : TBS[29]? = some tb_29 := rfl
theorem mo_29 : mown 29 = 2 := rfl
theorem ml_29 : mml 29 = 2 := rfl
theorem rt_29 : mrt 29 = none := rfl
theorem na_29 : 1 = mna 29 := rfl
theorem tbs_30 : TBS[30]? = some tb_30 := rfl
theorem mo_30 : mown 30 = 2 := rfl
theorem ml_30 : mml 30 = 3 := rfl
theorem rt_30 : mrt 30 = none := rfl
theorem na_30 : 0 = mna 30 := rfl
theorem tbs_31 : TBS[31]? = some tb_31 := rfl
theorem mo_31 : mown 31 = 2 := rfl
theorem ml_31 : mml 31 = 3 := rfl
theorem rt_31 : mrt 31 = (some .boolean) := rfl
theorem na_31 : 0 = mna 31 := rfl
theorem tbs_32 : TBS[32]? = some tb_32 := rfl
theorem mo_32 : mown 32 = 2 := rfl
theorem ml_32 : mml 32 = 2 := rfl
theorem rt_32 : mrt 32 = (some .boolean) := rfl
theorem na_32 : 0 = mna 32 := rfl
theorem tbs_33 : TBS[33]? = some tb_33 := rfl
theorem mo_33 : mown 33 = 2 := rfl
theorem ml_33 : mml 33 = 3 := rfl
theorem rt_33 : mrt 33 = (some .int) := rfl
theorem na_33 : 0 = mna 33 := rfl
theorem tbs_34 : TBS[34]? = some tb_34 := rfl
theorem mo_34 : mown 34 = 2 := rfl
theorem ml_34 : mml 34 = 4 := rfl
theorem rt_34 : mrt 34 = (some .int) := rfl
theorem na_34 : 1 = mna 34 := rfl
theorem tbs_35 : TBS[35]? = some tb_35 := rfl
theorem mo_35 : mown 35 = 2 := rfl
theorem ml_35 : mml 35 = 3 := rfl
theorem rt_35 : mrt 35 = (some .int) := rfl
theorem na_35 : 0 = mna 35 := rfl
theorem tbs_36 : TBS[36]? = some tb_36 := rfl
theorem mo_36 : mown 36 = 2 := rfl
theorem ml_36 : mml 36 = 4 := rfl
theorem rt_36 : mrt 36 = (some .int) := rfl
theorem na_36 : 1 = mna 36 := rfl
theorem tbs_37 : TBS[37]? = some tb_37 := rfl
theorem mo_37 : mown 37 = 2 := rfl
theorem ml_37 : mml 37 = 4 := rfl
theorem rt_37 : mrt 37 = (some .int) := rfl
theorem na_37 : 1 = mna 37 := rfl
theorem tbs_38 : TBS[38]? = some tb_38 := rfl
theorem mo_38 : mown 38 = 3 := rfl
theorem ml_38 : mml 38 = 2 := rfl
theorem rt_38 : mrt 38 = none := rfl
theorem na_38 : 0 = mna 38 := rfl
theorem tbs_39 : TBS[39]? = some tb_39 := rfl
theorem mo_39 : mown 39 = 3 := rfl
theorem ml_39 : mml 39 = 5 := rfl
theorem rt_39 : mrt 39 = (some .int) := rfl
theorem na_39 : 4 = mna 39 := rfl
theorem tbs_40 : TBS[40]? = some tb_40 := rfl
theorem mo_40 : mown 40 = 3 := rfl
theorem ml_40 : mml 40 = 4 := rfl
theorem rt_40 : mrt 40 = (some .int) := rfl
theorem na_40 : 2 = mna 40 := rfl
theorem tbs_41 : TBS[41]? = some tb_41 := rfl
theorem mo_41 : mown 41 = 3 := rfl
theorem ml_41 : mml 41 = 5 := rfl
theorem rt_41 : mrt 41 = (some .int) := rfl
theorem na_41 : 3 = mna 41 := rfl
theorem tbs_42 : TBS[42]? = some tb_42 := rfl
theorem mo_42 : mown 42 = 3 := rfl
theorem ml_42 : mml 42 = 1 := rfl
theorem rt_42 : mrt 42 = (some .int) := rfl
theorem na_42 : 0 = mna 42 := rfl
theorem tbs_43 : TBS[43]? = some tb_43 := rfl
theorem mo_43 : mown 43 = 3 := rfl
theorem ml_43 : mml 43 = 2 := rfl
theorem rt_43 : mrt 43 = (some .int) := rfl
theorem na_43 : 0 = mna 43 := rfl
theorem tbs_44 : TBS[44]? = some tb_44 := rfl
theorem mo_44 : mown 44 = 3 := rfl
theorem ml_44 : mml 44 = 2 := rfl
theorem rt_44 : mrt 44 = (some .int) := rfl
theorem na_44 : 1 = mna 44 := rfl
theorem tbs_45 : TBS[45]? = some tb_45 := rfl
theorem mo_45 : mown 45 = 3 := rfl
theorem ml_45 : mml 45 = 2 := rfl
theorem rt_45 : mrt 45 = (some .int) := rfl
theorem na_45 : 1 = mna 45 := rfl
theorem tbs_46 : TBS[46]? = some tb_46 := rfl
theorem mo_46 : mown 46 = 3 := rfl
theorem ml_46 : mml 46 = 2 := rfl
theorem rt_46 : mrt 46 = (some .int) := rfl
theorem na_46 : 1 = mna 46 := rfl
theorem tbs_47 : TBS[47]? = some tb_47 := rfl
theorem mo_47 : mown 47 = 3 := rfl
theorem ml_47 : mml 47 = 2 := rfl
theorem rt_47 : mrt 47 = (some .int) := rfl
theorem na_47 : 1 = mna 47 := rfl
theorem tbs_48 : TBS[48]? = some tb_48 := rfl
theorem mo_48 : mown 48 = 3 := rfl
theorem ml_48 : mml 48 = 2 := rfl
theorem rt_48 : mrt 48 = (some .int) := rfl
theorem na_48 : 1 = mna 48 := rfl
theorem tbs_49 : TBS[49]? = some tb_49 := rfl
theorem mo_49 : mown 49 = 3 := rfl
theorem ml_49 : mml 49 = 1 := rfl
theorem rt_49 : mrt 49 = (some .int) := rfl
theorem na_49 : 0 = mna 49 := rfl
theorem tbs_50 : TBS[50]? = some tb_50 := rfl
theorem mo_50 : mown 50 = 3 := rfl
theorem ml_50 : mml 50 = 3 := rfl
theorem rt_50 : mrt 50 = (some .int) := rfl
theorem na_50 : 2 = mna 50 := rfl
theorem tbs_51 : TBS[51]? = some tb_51 := rfl
theorem mo_51 : mown 51 = 3 := rfl
theorem ml_51 : mml 51 = 4 := rfl
theorem rt_51 : mrt 51 = (some .int) := rfl
theorem na_51 : 2 = mna 51 := rfl
theorem tbs_52 : TBS[52]? = some tb_52 := rfl
theorem mo_52 : mown 52 = 3 := rfl
theorem ml_52 : mml 52 = 3 := rfl
theorem rt_52 : mrt 52 = (some .int) := rfl
theorem na_52 : 2 = mna 52 := rfl
theorem tbs_53 : TBS[53]? = some tb_53 := rfl
theorem mo_53 : mown 53 = 3 := rfl
theorem ml_53 : mml 53 = 2 := rfl
theorem rt_53 : mrt 53 = (some .int) := rfl
theorem na_53 : 1 = mna 53 := rfl
theorem tbs_54 : TBS[54]? = some tb_54 := rfl
theorem mo_54 : mown 54 = 3 := rfl
theorem ml_54 : mml 54 = 1 := rfl
theorem rt_54 : mrt 54 = (some .double) := rfl
theorem na_54 : 0 = mna 54 := rfl
theorem tbs_55 : TBS[55]? = some tb_55 := rfl
theorem mo_55 : mown 55 = 3 := rfl
theorem ml_55 : mml 55 = 1 := rfl
theorem rt_55 : mrt 55 = (some .int) := rfl
theorem na_55 : 0 = mna 55 := rfl
theorem tbs_56 : TBS[56]? = some tb_56 := rfl
theorem mo_56 : mown 56 = 3 := rfl
theorem ml_56 : mml 56 = 2 := rfl
theorem rt_56 : mrt 56 = (some .int) := rfl
theorem na_56 : 1 = mna 56 := rfl
theorem tbs_57 : TBS[57]? = some tb_57 := rfl
theorem mo_57 : mown 57 = 3 := rfl
theorem ml_57 : mml 57 = 2 := rfl
theorem rt_57 : mrt 57 = (some .boolean) := rfl
theorem na_57 : 2 = mna 57 := rfl
theorem tbs_58 : TBS[58]? = some tb_58 := rfl
theorem mo_58 : mown 58 = 3 := rfl
theorem ml_58 : mml 58 = 1 := rfl
theorem rt_58 : mrt 58 = (some .boolean) := rfl
theorem na_58 : 1 = mna 58 := rfl
theorem tbs_59 : TBS[59]? = some tb_59 := rfl
theorem mo_59 : mown 59 = 3 := rfl
theorem ml_59 : mml 59 = 1 := rfl
theorem rt_59 : mrt 59 = (some .int) := rfl
theorem na_59 : 1 = mna 59 := rfl
theorem tbs_60 : TBS[60]? = some tb_60 := rfl
theorem mo_60 : mown 60 = 3 := rfl
theorem ml_60 : mml 60 = 1 := rfl
theorem rt_60 : mrt 60 = (some .int) := rfl
theorem na_60 : 1 = mna 60 := rfl
theorem tbs_61 : TBS[61]? = some tb_61 := rfl
theorem mo_61 : mown 61 = 3 := rfl
theorem ml_61 : mml 61 = 2 := rfl
theorem rt_61 : mrt 61 = (some .boolean) := rfl
theorem na_61 : 2 = mna 61 := rfl
theorem tbs_62 : TBS[62]? = some tb_62 := rfl
theorem mo_62 : mown 62 = 3 := rfl
theorem ml_62 : mml 62 = 4 := rfl
theorem rt_62 : mrt 62 = (some .int) := rfl
theorem na_62 : 1 = mna 62 := rfl
theorem tbs_63 : TBS[63]? = some tb_63 := rfl
theorem mo_63 : mown 63 = 3 := rfl
theorem ml_63 : mml 63 = 1 := rfl
theorem rt_63 : mrt 63 = none := rfl
theorem na_63 : 0 = mna 63 := rfl
theorem tbs_64 : TBS[64]? = some tb_64 := rfl
theorem mo_64 : mown 64 = 3 := rfl
theorem ml_64 : mml 64 = 3 := rfl
theorem rt_64 : mrt 64 = none := rfl
theorem na_64 : 0 = mna 64 := rfl
theorem tbs_65 : TBS[65]? = some tb_65 := rfl
theorem mo_65 : mown 65 = 3 := rfl
theorem ml_65 : mml 65 = 2 := rfl
theorem rt_65 : mrt 65 = none := rfl
theorem na_65 : 2 = mna 65 := rfl
theorem tbs_66 : TBS[66]? = some tb_66 := rfl
theorem mo_66 : mown 66 = 3 := rfl
theorem ml_66 : mml 66 = 2 := rfl
theorem rt_66 : mrt 66 = (some .boolean) := rfl
theorem na_66 : 1 = mna 66 := rfl
theorem tbs_67 : TBS[67]? = some tb_67 := rfl
theorem mo_67 : mown 67 = 3 := rfl
theorem ml_67 : mml 67 = 1 := rfl
theorem rt_67 : mrt 67 = (some .int) := rfl
theorem na_67 : 0 = mna 67 := rfl
theorem tbs_68 : TBS[68]? = some tb_68 := rfl
theorem mo_68 : mown 68 = 4 := rfl
theorem ml_68 : mml 68 = 1 := rfl
theorem rt_68 : mrt 68 = (some .int) := rfl
theorem na_68 : 1 = mna 68 := rfl
theorem tbs_69 : TBS[69]? = some tb_69 := rfl
theorem mo_69 : mown 69 = 5 := rfl
theorem ml_69 : mml 69 = 2 := rfl
theorem rt_69 : mrt 69 = (some .int) := rfl
theorem na_69 : 2 = mna 69 := rfl
theorem tbs_70 : TBS[70]? = some tb_70 := rfl
theorem mo_70 : mown 70 = 7 := rfl
theorem ml_70 : mml 70 = 2 := rfl
theorem rt_70 : mrt 70 = (some .int) := rfl
theorem na_70 : 2 = mna 70 := rfl
theorem tbs_71 : TBS[71]? = some tb_71 := rfl
theorem mo_71 : mown 71 = 7 := rfl
theorem ml_71 : mml 71 = 3 := rfl
theorem rt_71 : mrt 71 = (some .int) := rfl
theorem na_71 : 1 = mna 71 := rfl
theorem tbs_72 : TBS[72]? = some tb_72 := rfl
theorem mo_72 : mown 72 = 7 := rfl
theorem ml_72 : mml 72 = 9 := rfl
theorem rt_72 : mrt 72 = (some .boolean) := rfl
theorem na_72 : 2 = mna 72 := rfl
theorem tbs_73 : TBS[73]? = some tb_73 := rfl
theorem mo_73 : mown 73 = 7 := rfl
theorem ml_73 : mml 73 = 9 := rfl
theorem rt_73 : mrt 73 = (some .boolean) := rfl
theorem na_73 : 2 = mna 73 := rfl
theorem tbs_74 : TBS[74]? = some tb_74 := rfl
theorem mo_74 : mown 74 = 7 := rfl
theorem ml_74 : mml 74 = 8 := rfl
theorem rt_74 : mrt 74 = (some .boolean) := rfl
theorem na_74 : 2 = mna 74 := rfl
theorem tbs_75 : TBS[75]? = some tb_75 := rfl
theorem mo_75 : mown 75 = 7 := rfl
theorem ml_75 : mml 75 = 8 := rfl
theorem rt_75 : mrt 75 = (some .boolean) := rfl
theorem na_75 : 1 = mna 75 := rfl
theorem tbs_76 : TBS[76]? = some tb_76 := rfl
theorem mo_76 : mown 76 = 7 := rfl
theorem ml_76 : mml 76 = 9 := rfl
theorem rt_76 : mrt 76 = (some .boolean) := rfl
theorem na_76 : 2 = mna 76 := rfl
theorem tbs_77 : TBS[77]? = some tb_77 := rfl
theorem mo_77 : mown 77 = 7 := rfl
theorem ml_77 : mml 77 = 6 := rfl
theorem rt_77 : mrt 77 = (some .boolean) := rfl
theorem na_77 : 1 = mna 77 := rfl
theorem fl_0_9 : fld 0 9 = some (0, 0) := rfl
theorem fl_0_15 : fld 0 15 = some (0, 4) := rfl
theorem fl_0_19 : fld 0 19 = some (0, 5) := rfl
theorem fl_0_22 : fld 0 22 = some (0, 6) := rfl
theorem fl_0_25 : fld 0 25 = some (0, 7) := rfl
theorem fl_1_9 : fld 1 9 = some (1, 2) := rfl
theorem fl_1_15 : fld 1 15 = some (1, 0) := rfl
theorem fl_1_19 : fld 1 19 = some (1, 1) := rfl
theorem fl_1_43 : fld 1 43 = some (2, 12) := rfl
theorem fl_1_88 : fld 1 88 = some (2, 7) := rfl
theorem fl_1_91 : fld 1 91 = some (2, 8) := rfl
theorem fl_1_94 : fld 1 94 = some (2, 9) := rfl
theorem fl_1_97 : fld 1 97 = some (2, 13) := rfl
theorem fl_1_100 : fld 1 100 = some (2, 14) := rfl
theorem fl_2_9 : fld 2 9 = some (2, 7) := rfl
theorem fl_2_15 : fld 2 15 = some (2, 8) := rfl
theorem fl_2_18 : fld 2 18 = some (2, 9) := rfl
theorem fl_2_21 : fld 2 21 = some (2, 10) := rfl
theorem fl_2_24 : fld 2 24 = some (2, 11) := rfl
theorem fl_2_27 : fld 2 27 = some (2, 12) := rfl
theorem fl_2_30 : fld 2 30 = some (2, 13) := rfl
theorem fl_2_33 : fld 2 33 = some (2, 14) := rfl
theorem fl_2_36 : fld 2 36 = some (2, 0) := rfl
theorem fl_2_40 : fld 2 40 = some (2, 1) := rfl
theorem fl_2_44 : fld 2 44 = some (2, 2) := rfl
theorem fl_2_47 : fld 2 47 = some (2, 3) := rfl
theorem fl_2_50 : fld 2 50 = some (2, 4) := rfl
theorem fl_2_53 : fld 2 53 = some (2, 5) := rfl
theorem fl_2_56 : fld 2 56 = some (2, 6) := rfl
theorem fl_3_12 : fld 3 12 = some (3, 0) := rfl
theorem fl_3_16 : fld 3 16 = some (3, 1) := rfl
theorem fl_3_19 : fld 3 19 = some (3, 2) := rfl
theorem fl_3_22 : fld 3 22 = some (3, 3) := rfl
theorem fl_3_29 : fld 3 29 = some (3, 4) := rfl
theorem fl_3_36 : fld 3 36 = some (3, 5) := rfl
theorem fl_3_40 : fld 3 40 = some (3, 6) := rfl
theorem fl_3_44 : fld 3 44 = some (3, 7) := rfl
theorem fl_3_56 : fld 3 56 = some (2, 0) := rfl
theorem fl_3_59 : fld 3 59 = some (2, 1) := rfl
theorem fl_3_92 : fld 3 92 = some (2, 11) := rfl
theorem fl_3_100 : fld 3 100 = some (2, 13) := rfl
theorem fl_3_103 : fld 3 103 = some (2, 14) := rfl
theorem fl_3_116 : fld 3 116 = some (2, 2) := rfl
theorem fl_3_129 : fld 3 129 = some (2, 10) := rfl
theorem fl_3_135 : fld 3 135 = some (2, 4) := rfl
theorem fl_3_156 : fld 3 156 = some (2, 12) := rfl
theorem fl_3_165 : fld 3 165 = some (2, 6) := rfl
theorem fl_3_168 : fld 3 168 = some (2, 5) := rfl
theorem fl_3_181 : fld 3 181 = some (0, 1) := rfl
theorem fl_3_188 : fld 3 188 = some (2, 7) := rfl
theorem fl_3_189 : fld 3 189 = some (2, 8) := rfl
theorem fl_3_190 : fld 3 190 = some (2, 9) := rfl
theorem fl_3_212 : fld 3 212 = some (1, 0) := rfl
theorem fl_3_215 : fld 3 215 = some (1, 1) := rfl
theorem fl_3_227 : fld 3 227 = some (2, 3) := rfl
theorem ln_0_3 : lnk 0 3 = some (5, 0) := rfl
theorem ln_1_3 : lnk 1 3 = some (5, 0) := rfl
theorem ln_1_22 : lnk 1 22 = some (0, 8) := rfl
theorem ln_1_26 : lnk 1 26 = some (0, 3) := rfl
theorem ln_1_30 : lnk 1 30 = some (0, 7) := rfl
theorem ln_1_34 : lnk 1 34 = some (1, 68) := rfl
theorem ln_1_40 : lnk 1 40 = some (0, 4) := rfl
theorem ln_1_48 : lnk 1 48 = some (8, 69) := rfl
theorem ln_1_54 : lnk 1 54 = some (0, 33) := rfl
theorem ln_1_58 : lnk 1 58 = some (3, 61) := rfl
theorem ln_1_62 : lnk 1 62 = some (0, 26) := rfl
theorem ln_1_66 : lnk 1 66 = some (0, 6) := rfl
theorem ln_1_70 : lnk 1 70 = some (0, 25) := rfl
theorem ln_1_73 : lnk 1 73 = some (0, 9) := rfl
theorem ln_1_76 : lnk 1 76 = some (0, 12) := rfl
theorem ln_1_79 : lnk 1 79 = some (0, 10) := rfl
theorem ln_1_82 : lnk 1 82 = some (0, 18) := rfl
theorem ln_1_85 : lnk 1 85 = some (0, 11) := rfl
theorem ln_1_103 : lnk 1 103 = some (0, 19) := rfl
theorem ln_1_106 : lnk 1 106 = some (3, 60) := rfl
theorem ln_1_109 : lnk 1 109 = some (0, 20) := rfl
theorem ln_2_3 : lnk 2 3 = some (5, 0) := rfl
theorem ln_2_59 : lnk 2 59 = some (6, 0) := rfl
theorem ln_2_65 : lnk 2 65 = some (0, 18) := rfl
theorem ln_2_69 : lnk 2 69 = some (0, 19) := rfl
theorem ln_2_72 : lnk 2 72 = some (0, 21) := rfl
theorem ln_2_75 : lnk 2 75 = some (0, 23) := rfl
theorem ln_2_78 : lnk 2 78 = some (0, 20) := rfl
theorem ln_2_81 : lnk 2 81 = some (0, 24) := rfl
theorem ln_2_84 : lnk 2 84 = some (3, 61) := rfl
theorem ln_2_88 : lnk 2 88 = some (3, 60) := rfl
theorem ln_2_92 : lnk 2 92 = some (0, 31) := rfl
theorem ln_2_96 : lnk 2 96 = some (0, 22) := rfl
theorem ln_2_99 : lnk 2 99 = some (0, 28) := rfl
theorem ln_2_103 : lnk 2 103 = some (0, 25) := rfl
theorem ln_2_106 : lnk 2 106 = some (0, 26) := rfl
theorem ln_3_3 : lnk 3 3 = some (5, 0) := rfl
theorem ln_3_48 : lnk 3 48 = some (0, 18) := rfl
theorem ln_3_52 : lnk 3 52 = some (1, 57) := rfl
theorem ln_3_62 : lnk 3 62 = some (0, 63) := rfl
theorem ln_3_65 : lnk 3 65 = some (0, 15) := rfl
theorem ln_3_93 : lnk 3 93 = some (0, 16) := rfl
theorem ln_3_97 : lnk 3 97 = some (1, 58) := rfl
theorem ln_3_106 : lnk 3 106 = some (0, 35) := rfl
theorem ln_3_109 : lnk 3 109 = some (0, 32) := rfl
theorem ln_3_113 : lnk 3 113 = some (0, 17) := rfl
theorem ln_3_119 : lnk 3 119 = some (0, 19) := rfl
theorem ln_3_122 : lnk 3 122 = some (0, 22) := rfl
theorem ln_3_125 : lnk 3 125 = some (0, 28) := rfl
theorem ln_3_132 : lnk 3 132 = some (0, 29) := rfl
theorem ln_3_138 : lnk 3 138 = some (1, 68) := rfl
theorem ln_3_144 : lnk 3 144 = some (0, 21) := rfl
theorem ln_3_147 : lnk 3 147 = some (1, 60) := rfl
theorem ln_3_150 : lnk 3 150 = some (0, 24) := rfl
theorem ln_3_153 : lnk 3 153 = some (0, 25) := rfl
theorem ln_3_159 : lnk 3 159 = some (0, 20) := rfl
theorem ln_3_162 : lnk 3 162 = some (0, 26) := rfl
theorem ln_3_171 : lnk 3 171 = some (1, 61) := rfl
theorem ln_3_174 : lnk 3 174 = some (0, 27) := rfl
theorem ln_3_184 : lnk 3 184 = some (1, 65) := rfl
theorem ln_3_191 : lnk 3 191 = some (1, 59) := rfl
theorem ln_3_195 : lnk 3 195 = some (0, 36) := rfl
theorem ln_3_198 : lnk 3 198 = some (0, 37) := rfl
theorem ln_3_201 : lnk 3 201 = some (0, 66) := rfl
theorem ln_3_204 : lnk 3 204 = some (0, 2) := rfl
theorem ln_3_208 : lnk 3 208 = some (0, 3) := rfl
theorem ln_3_218 : lnk 3 218 = some (0, 4) := rfl
theorem ln_3_221 : lnk 3 221 = some (0, 34) := rfl
theorem ln_3_224 : lnk 3 224 = some (0, 5) := rfl
theorem ln_3_234 : lnk 3 234 = some (0, 54) := rfl
theorem ln_3_238 : lnk 3 238 = some (1, 62) := rfl
theorem ln_3_242 : lnk 3 242 = some (0, 67) := rfl
theorem ln_3_245 : lnk 3 245 = some (0, 33) := rfl
theorem ln_3_249 : lnk 3 249 = some (0, 64) := rfl
theorem ln_3_252 : lnk 3 252 = some (0, 14) := rfl
theorem ln_3_256 : lnk 3 256 = some (0, 30) := rfl
theorem ln_7_9 : lnk 7 9 = some (0, 52) := rfl
theorem ln_7_15 : lnk 7 15 = some (0, 53) := rfl
theorem ln_7_19 : lnk 7 19 = some (1, 71) := rfl
theorem ln_7_24 : lnk 7 24 = some (0, 56) := rfl
theorem ln_7_27 : lnk 7 27 = some (0, 50) := rfl
theorem ln_7_30 : lnk 7 30 = some (0, 51) := rfl
theorem ln_7_33 : lnk 7 33 = some (0, 54) := rfl
theorem ln_7_37 : lnk 7 37 = some (0, 44) := rfl
theorem ln_7_42 : lnk 7 42 = some (0, 47) := rfl
theorem ln_7_47 : lnk 7 47 = some (0, 46) := rfl
theorem ln_7_52 : lnk 7 52 = some (1, 70) := rfl
theorem ln_7_56 : lnk 7 56 = some (0, 39) := rfl
theorem ln_7_60 : lnk 7 60 = some (0, 40) := rfl
theorem ln_7_63 : lnk 7 63 = some (0, 41) := rfl
theorem ln_7_67 : lnk 7 67 = some (0, 45) := rfl
theorem ln_7_70 : lnk 7 70 = some (0, 48) := rfl
theorem ln_7_74 : lnk 7 74 = some (0, 42) := rfl
theorem ln_7_78 : lnk 7 78 = some (0, 49) := rfl
theorem ln_7_81 : lnk 7 81 = some (1, 74) := rfl
theorem ln_7_85 : lnk 7 85 = some (0, 55) := rfl
theorem ln_7_88 : lnk 7 88 = some (1, 72) := rfl
theorem ln_7_92 : lnk 7 92 = some (1, 73) := rfl
theorem ln_7_95 : lnk 7 95 = some (1, 76) := rfl
theorem ln_7_98 : lnk 7 98 = some (1, 75) := rfl
theorem ln_7_102 : lnk 7 102 = some (0, 43) := rfl
theorem sh_0 : SH 0 = (0, 3) := rfl
theorem ltc_0 : 0 < 73 := by decide
theorem sh_1 : SH 1 = (0, 2) := rfl
theorem ltc_1 : 1 < 73 := by decide
theorem sh_2 : SH 2 = (1, 16) := rfl
theorem ltc_2 : 2 < 73 := by decide
theorem sh_3 : SH 3 = (1, 16) := rfl
theorem ltc_3 : 3 < 73 := by decide
theorem sh_4 : SH 4 = (1, 16) := rfl
theorem ltc_4 : 4 < 73 := by decide
theorem sh_5 : SH 5 = (1, 16) := rfl
theorem ltc_5 : 5 < 73 := by decide
theorem sh_6 : SH 6 = (1, 16) := rfl
theorem ltc_6 : 6 < 73 := by decide
theorem sh_7 : SH 7 = (1, 16) := rfl
theorem ltc_7 : 7 < 73 := by decide
theorem sh_8 : SH 8 = (1, 12) := rfl
theorem ltc_8 : 8 < 73 := by decide
theorem sh_9 : SH 9 = (1, 12) := rfl
theorem ltc_9 : 9 < 73 := by decide
theorem sh_10 : SH 10 = (0, 2) := rfl
theorem ltc_10 : 10 < 73 := by decide
theorem sh_11 : SH 11 = (1, 16) := rfl
theorem ltc_11 : 11 < 73 := by decide
theorem sh_12 : SH 12 = (1, 16) := rfl
theorem ltc_12 : 12 < 73 := by decide
theorem sh_13 : SH 13 = (1, 16) := rfl
theorem ltc_13 : 13 < 73 := by decide
theorem sh_14 : SH 14 = (1, 16) := rfl
theorem ltc_14 : 14 < 73 := by decide
theorem sh_15 : SH 15 = (1, 16) := rfl
theorem ltc_15 : 15 < 73 := by decide
theorem sh_16 : SH 16 = (1, 16) := rfl
theorem ltc_16 : 16 < 73 := by decide
theorem sh_17 : SH 17 = (1, 12) := rfl
theorem ltc_17 : 17 < 73 := by decide
theorem sh_18 : SH 18 = (1, 12) := rfl
theorem ltc_18 : 18 < 73 := by decide
theorem sh_19 : SH 19 = (0, 2) := rfl
theorem ltc_19 : 19 < 73 := by decide
theorem sh_20 : SH 20 = (1, 16) := rfl
theorem ltc_20 : 20 < 73 := by decide
theorem sh_21 : SH 21 = (1, 16) := rfl
theorem ltc_21 : 21 < 73 := by decide
theorem sh_22 : SH 22 = (1, 16) := rfl
theorem ltc_22 : 22 < 73 := by decide
theorem sh_23 : SH 23 = (1, 16) := rfl
theorem ltc_23 : 23 < 73 := by decide
theorem sh_24 : SH 24 = (1, 16) := rfl
theorem ltc_24 : 24 < 73 := by decide
theorem sh_25 : SH 25 = (1, 16) := rfl
theorem ltc_25 : 25 < 73 := by decide
theorem sh_26 : SH 26 = (1, 12) := rfl
theorem ltc_26 : 26 < 73 := by decide
theorem sh_27 : SH 27 = (1, 12) := rfl
theorem ltc_27 : 27 < 73 := by decide
theorem sh_28 : SH 28 = (5, 4) := rfl
theorem ltc_28 : 28 < 73 := by decide
theorem sh_29 : SH 29 = (0, 1) := rfl
theorem ltc_29 : 29 < 73 := by decide
theorem sh_30 : SH 30 = (1, 16) := rfl
theorem ltc_30 : 30 < 73 := by decide
theorem sh_31 : SH 31 = (0, 0) := rfl
theorem ltc_31 : 31 < 73 := by decide
theorem sh_32 : SH 32 = (2, 60) := rfl
theorem ltc_32 : 32 < 73 := by decide
theorem sh_33 : SH 33 = (1, 21) := rfl
theorem ltc_33 : 33 < 73 := by decide
theorem sh_34 : SH 34 = (1, 21) := rfl
theorem ltc_34 : 34 < 73 := by decide
theorem sh_35 : SH 35 = (1, 21) := rfl
theorem ltc_35 : 35 < 73 := by decide
theorem sh_36 : SH 36 = (1, 21) := rfl
theorem ltc_36 : 36 < 73 := by decide
theorem sh_37 : SH 37 = (0, 2) := rfl
theorem ltc_37 : 37 < 73 := by decide
theorem sh_38 : SH 38 = (1, 16) := rfl
theorem ltc_38 : 38 < 73 := by decide
theorem sh_39 : SH 39 = (1, 16) := rfl
theorem ltc_39 : 39 < 73 := by decide
theorem sh_40 : SH 40 = (1, 16) := rfl
theorem ltc_40 : 40 < 73 := by decide
theorem sh_41 : SH 41 = (1, 16) := rfl
theorem ltc_41 : 41 < 73 := by decide
theorem sh_42 : SH 42 = (1, 16) := rfl
theorem ltc_42 : 42 < 73 := by decide
theorem sh_43 : SH 43 = (1, 16) := rfl
theorem ltc_43 : 43 < 73 := by decide
theorem sh_44 : SH 44 = (1, 12) := rfl
theorem ltc_44 : 44 < 73 := by decide
theorem sh_45 : SH 45 = (1, 12) := rfl
theorem ltc_45 : 45 < 73 := by decide
theorem sh_46 : SH 46 = (0, 2) := rfl
theorem ltc_46 : 46 < 73 := by decide
theorem sh_47 : SH 47 = (1, 16) := rfl
theorem ltc_47 : 47 < 73 := by decide
theorem sh_48 : SH 48 = (1, 16) := rfl
theorem ltc_48 : 48 < 73 := by decide
theorem sh_49 : SH 49 = (1, 16) := rfl
theorem ltc_49 : 49 < 73 := by decide
theorem sh_50 : SH 50 = (1, 16) := rfl
theorem ltc_50 : 50 < 73 := by decide
theorem sh_51 : SH 51 = (1, 16) := rfl
theorem ltc_51 : 51 < 73 := by decide
theorem sh_52 : SH 52 = (1, 16) := rfl
theorem ltc_52 : 52 < 73 := by decide
theorem sh_53 : SH 53 = (1, 12) := rfl
theorem ltc_53 : 53 < 73 := by decide
theorem sh_54 : SH 54 = (1, 12) := rfl
theorem ltc_54 : 54 < 73 := by decide
theorem sh_55 : SH 55 = (0, 2) := rfl
theorem ltc_55 : 55 < 73 := by decide
theorem sh_56 : SH 56 = (1, 16) := rfl
theorem ltc_56 : 56 < 73 := by decide
theorem sh_57 : SH 57 = (1, 16) := rfl
theorem ltc_57 : 57 < 73 := by decide
theorem sh_58 : SH 58 = (1, 16) := rfl
theorem ltc_58 : 58 < 73 := by decide
theorem sh_59 : SH 59 = (1, 16) := rfl
theorem ltc_59 : 59 < 73 := by decide
theorem sh_60 : SH 60 = (1, 16) := rfl
theorem ltc_60 : 60 < 73 := by decide
theorem sh_61 : SH 61 = (1, 16) := rfl
theorem ltc_61 : 61 < 73 := by decide
theorem sh_62 : SH 62 = (1, 12) := rfl
theorem ltc_62 : 62 < 73 := by decide
theorem sh_63 : SH 63 = (1, 12) := rfl
theorem ltc_63 : 63 < 73 := by decide
theorem sh_64 : SH 64 = (0, 2) := rfl
theorem ltc_64 : 64 < 73 := by decide
theorem sh_65 : SH 65 = (1, 16) := rfl
theorem ltc_65 : 65 < 73 := by decide
theorem sh_66 : SH 66 = (1, 16) := rfl
theorem ltc_66 : 66 < 73 := by decide
theorem sh_67 : SH 67 = (1, 16) := rfl
theorem ltc_67 : 67 < 73 := by decide
theorem sh_68 : SH 68 = (1, 16) := rfl
theorem ltc_68 : 68 < 73 := by decide
theorem sh_69 : SH 69 = (1, 16) := rfl
theorem ltc_69 : 69 < 73 := by decide
theorem sh_70 : SH 70 = (1, 16) := rfl
theorem ltc_70 : 70 < 73 := by decide
theorem sh_71 : SH 71 = (1, 12) := rfl
theorem ltc_71 : 71 < 73 := by decide
theorem sh_72 : SH 72 = (1, 12) := rfl
theorem ltc_72 : 72 < 73 := by decide
theorem nk_0_0 : 0 < nf 0 := by decide
theorem fp_0_0 : fkd 0 0 = 2 := rfl
theorem nk_0_1 : 1 < nf 0 := by decide
theorem fi_0_1 : fkd 0 1 ≠ 2 := by decide
theorem nk_0_2 : 2 < nf 0 := by decide
theorem fi_0_2 : fkd 0 2 ≠ 2 := by decide
theorem nk_0_3 : 3 < nf 0 := by decide
theorem fi_0_3 : fkd 0 3 ≠ 2 := by decide
theorem nk_0_4 : 4 < nf 0 := by decide
theorem fp_0_4 : fkd 0 4 = 2 := rfl
theorem nk_0_5 : 5 < nf 0 := by decide
theorem fp_0_5 : fkd 0 5 = 2 := rfl
theorem nk_0_6 : 6 < nf 0 := by decide
theorem fp_0_6 : fkd 0 6 = 2 := rfl
theorem nk_0_7 : 7 < nf 0 := by decide
theorem fp_0_7 : fkd 0 7 = 2 := rfl
theorem nk_1_0 : 0 < nf 1 := by decide
theorem fi_1_0 : fkd 1 0 ≠ 2 := by decide
theorem nk_1_1 : 1 < nf 1 := by decide
theorem fi_1_1 : fkd 1 1 ≠ 2 := by decide
theorem nk_1_2 : 2 < nf 1 := by decide
theorem fp_1_2 : fkd 1 2 = 2 := rfl
theorem nk_2_0 : 0 < nf 2 := by decide
theorem fi_2_0 : fkd 2 0 ≠ 2 := by decide
theorem nk_2_1 : 1 < nf 2 := by decide
theorem fi_2_1 : fkd 2 1 ≠ 2 := by decide
theorem nk_2_2 : 2 < nf 2 := by decide
theorem fi_2_2 : fkd 2 2 ≠ 2 := by decide
theorem nk_2_3 : 3 < nf 2 := by decide
theorem fi_2_3 : fkd 2 3 ≠ 2 := by decide
theorem nk_2_4 : 4 < nf 2 := by decide
theorem fi_2_4 : fkd 2 4 ≠ 2 := by decide
theorem nk_2_5 : 5 < nf 2 := by decide
theorem fi_2_5 : fkd 2 5 ≠ 2 := by decide
theorem nk_2_6 : 6 < nf 2 := by decide
theorem fi_2_6 : fkd 2 6 ≠ 2 := by decide
theorem nk_2_7 : 7 < nf 2 := by decide
theorem fp_2_7 : fkd 2 7 = 2 := rfl
theorem nk_2_8 : 8 < nf 2 := by decide
theorem fp_2_8 : fkd 2 8 = 2 := rfl
theorem nk_2_9 : 9 < nf 2 := by decide
theorem fp_2_9 : fkd 2 9 = 2 := rfl
theorem nk_2_10 : 10 < nf 2 := by decide
theorem fp_2_10 : fkd 2 10 = 2 := rfl
theorem nk_2_11 : 11 < nf 2 := by decide
theorem fp_2_11 : fkd 2 11 = 2 := rfl
theorem nk_2_12 : 12 < nf 2 := by decide
theorem fp_2_12 : fkd 2 12 = 2 := rfl
theorem nk_2_13 : 13 < nf 2 := by decide
theorem fp_2_13 : fkd 2 13 = 2 := rfl
theorem nk_2_14 : 14 < nf 2 := by decide
theorem fp_2_14 : fkd 2 14 = 2 := rfl
theorem nk_3_0 : 0 < nf 3 := by decide
theorem fp_3_0 : fkd 3 0 = 2 := rfl
theorem nk_3_1 : 1 < nf 3 := by decide
theorem fp_3_1 : fkd 3 1 = 2 := rfl
theorem nk_3_2 : 2 < nf 3 := by decide
theorem fp_3_2 : fkd 3 2 = 2 := rfl
theorem nk_3_3 : 3 < nf 3 := by decide
theorem fp_3_3 : fkd 3 3 = 2 := rfl
theorem nk_3_4 : 4 < nf 3 := by decide
theorem fp_3_4 : fkd 3 4 = 2 := rfl
theorem nk_3_5 : 5 < nf 3 := by decide
theorem fp_3_5 : fkd 3 5 = 2 := rfl
theorem nk_3_6 : 6 < nf 3 := by decide
theorem fi_3_6 : fkd 3 6 ≠ 2 := by decide
theorem nk_3_7 : 7 < nf 3 := by decide
theorem fi_3_7 : fkd 3 7 ≠ 2 := by decide
theorem pf_0_0 : PF 0 0 = some 1 := rfl
theorem pf_0_1 : PF 0 1 = some 10 := rfl
theorem pf_0_2 : PF 0 2 = some 19 := rfl
theorem pf_0_3 : PF 0 3 = some 28 := rfl
theorem pf_0_4 : PF 0 4 = some 29 := rfl
theorem pf_0_5 : PF 0 5 = some 31 := rfl
theorem pf_1_7 : PF 1 7 = some 2 := rfl
theorem pf_1_8 : PF 1 8 = some 3 := rfl
theorem pf_1_9 : PF 1 9 = some 4 := rfl
theorem pf_1_10 : PF 1 10 = some 5 := rfl
theorem pf_1_11 : PF 1 11 = some 6 := rfl
theorem pf_1_12 : PF 1 12 = some 7 := rfl
theorem pf_1_13 : PF 1 13 = some 8 := rfl
theorem pf_1_14 : PF 1 14 = some 9 := rfl
theorem pf_10_7 : PF 10 7 = some 11 := rfl
theorem pf_10_8 : PF 10 8 = some 12 := rfl
theorem pf_10_9 : PF 10 9 = some 13 := rfl
theorem pf_10_10 : PF 10 10 = some 14 := rfl
theorem pf_10_11 : PF 10 11 = some 15 := rfl
theorem pf_10_12 : PF 10 12 = some 16 := rfl
theorem pf_10_13 : PF 10 13 = some 17 := rfl
theorem pf_10_14 : PF 10 14 = some 18 := rfl
theorem pf_19_7 : PF 19 7 = some 20 := rfl
theorem pf_19_8 : PF 19 8 = some 21 := rfl
theorem pf_19_9 : PF 19 9 = some 22 := rfl
theorem pf_19_10 : PF 19 10 = some 23 := rfl
theorem pf_19_11 : PF 19 11 = some 24 := rfl
theorem pf_19_12 : PF 19 12 = some 25 := rfl
theorem pf_19_13 : PF 19 13 = some 26 := rfl
theorem pf_19_14 : PF 19 14 = some 27 := rfl
theorem pf_29_2 : PF 29 2 = some 30 := rfl
theorem pf_31_0 : PF 31 0 = some 32 := rfl
theorem pf_31_4 : PF 31 4 = some 33 := rfl
theorem pf_31_5 : PF 31 5 = some 34 := rfl
theorem pf_31_6 : PF 31 6 = some 35 := rfl
theorem pf_31_7 : PF 31 7 = some 36 := rfl
theorem pf_37_7 : PF 37 7 = some 38 := rfl
theorem pf_37_8 : PF 37 8 = some 39 := rfl
theorem pf_37_9 : PF 37 9 = some 40 := rfl
theorem pf_37_10 : PF 37 10 = some 41 := rfl
theorem pf_37_11 : PF 37 11 = some 42 := rfl
theorem pf_37_12 : PF 37 12 = some 43 := rfl
theorem pf_37_13 : PF 37 13 = some 44 := rfl
theorem pf_37_14 : PF 37 14 = some 45 := rfl
theorem pf_46_7 : PF 46 7 = some 47 := rfl
theorem pf_46_8 : PF 46 8 = some 48 := rfl
theorem pf_46_9 : PF 46 9 = some 49 := rfl
theorem pf_46_10 : PF 46 10 = some 50 := rfl
theorem pf_46_11 : PF 46 11 = some 51 := rfl
theorem pf_46_12 : PF 46 12 = some 52 := rfl
theorem pf_46_13 : PF 46 13 = some 53 := rfl
theorem pf_46_14 : PF 46 14 = some 54 := rfl
theorem pf_55_7 : PF 55 7 = some 56 := rfl
theorem pf_55_8 : PF 55 8 = some 57 := rfl
theorem pf_55_9 : PF 55 9 = some 58 := rfl
theorem pf_55_10 : PF 55 10 = some 59 := rfl
theorem pf_55_11 : PF 55 11 = some 60 := rfl
theorem pf_55_12 : PF 55 12 = some 61 := rfl
theorem pf_55_13 : PF 55 13 = some 62 := rfl
theorem pf_55_14 : PF 55 14 = some 63 := rfl
theorem pf_64_7 : PF 64 7 = some 65 := rfl
theorem pf_64_8 : PF 64 8 = some 66 := rfl
theorem pf_64_9 : PF 64 9 = some 67 := rfl
theorem pf_64_10 : PF 64 10 = some 68 := rfl
theorem pf_64_11 : PF 64 11 = some 69 := rfl
theorem pf_64_12 : PF 64 12 = some 70 := rfl
theorem pf_64_13 : PF 64 13 = some 71 := rfl
theorem pf_64_14 : PF 64 14 = some 72 := rfl
end
section
/-! what each block of code asks: class 1 -/
set_option maxRecDepth 100000 in
theorem R_X1_make_0 {d : Nat} {v2 : Int32} {M : Im} {h : Hm} {D : Dm} {Q : Im → Hm → Dm → Prop} (H : EvV d nX1_make 12 [(0, .ref 29), (1, .ref 1), (2, .int v2), (3, .int 0)] [] (up2 (up2 M 29 0 0) 29 1 0) h D Q) : EvV d nX1_make 0 [(0, .ref 29), (1, .ref 1), (2, .int v2)] [] M h D Q := by
  refine ev_aload_n (pc1 := 1) rfl rfl (TBof tbs_2 _ rfl) rfl ?_
  refine ev_iconst (pc1 := 2) (x := 0) (by decide) (TBof tbs_2 _ rfl) rfl ?_
  refine ev_putI (pc1 := 5) (ci := 1) (k := 0) (TBof tbs_2 _ rfl) rfl (fldof mo_2 fl_1_15) ltc_29 sh_29 nk_1_0 rfl rfl ?_
  refine ev_aload_n (pc1 := 6) rfl rfl (TBof tbs_2 _ rfl) rfl ?_
  refine ev_iconst (pc1 := 7) (x := 0) (by decide) (TBof tbs_2 _ rfl) rfl ?_
  refine ev_putI (pc1 := 10) (ci := 1) (k := 1) (TBof tbs_2 _ rfl) rfl (fldof mo_2 fl_1_19) ltc_29 sh_29 nk_1_1 rfl rfl ?_
  refine ev_iconst (pc1 := 11) (x := 0) (by decide) (TBof tbs_2 _ rfl) rfl ?_
  refine ev_istore_n (pc1 := 12) (L1 := [(3, .int 0), (0, .ref 29), (1, .ref 1), (2, .int v2)]) (by rw [ml_2]; decide) rfl (TBof tbs_2 _ rfl) rfl ?_
  exact ev_le [1, 2, 3, 0] rfl rfl H
set_option maxRecDepth 100000 in
theorem R_X1_make_12 {d : Nat} {v2 v3 : Int32} {M : Im} {h : Hm} {D : Dm} {Q : Im → Hm → Dm → Prop} (H : ((16 ≤ v3) → (CV d nX1_addWayInto [.ref 29, .ref 1, .int v2] M h D (fun M2 h2 D2 => EvV d nX1_make 42 [(0, .ref 29), (1, .ref 1), (2, .int v2), (3, .int 0), (4, .int 0)] [] M2 h2 D2 Q))) ∧ (¬ (16 ≤ v3) → (vp_in v3 16 ∧ (EvV d nX1_make 12 [(0, .ref 29), (1, .ref 1), (2, .int v2), (3, .int (v3 + 1))] [] (up2 M 30 (v3.toNatClampNeg) 0) h D Q)))) : EvV d nX1_make 12 [(0, .ref 29), (1, .ref 1), (2, .int v2), (3, .int v3)] [] M h D Q := by
  refine ev_iload_n (pc1 := 13) rfl (TBof tbs_2 _ rfl) rfl ?_
  refine ev_bipush (pc1 := 15) (x := 16) (by decide) (TBof tbs_2 _ rfl) rfl ?_
  refine ev_icmp (pc1 := 18) (t := 31) (TBof tbs_2 _ rfl) (by decide) rfl (fun c1 => ?_) (fun c1 => ?_)
  · replace H := H.1 c1
    refine ev_aload_n (pc1 := 32) rfl rfl (TBof tbs_2 _ rfl) rfl ?_
    refine ev_aload_n (pc1 := 33) rfl rfl (TBof tbs_2 _ rfl) rfl ?_
    refine ev_iload_n (pc1 := 34) rfl (TBof tbs_2 _ rfl) rfl ?_
    refine ev_callvV (pc1 := 37) (as := [.ref 1, .int v2]) (r := []) (TBof tbs_2 _ rfl) rfl (lnkof mo_2 ln_1_22) rfl na_8 ltc_29 (sh_29.trans (by rw [mo_8])) (Nat.le_of_ble_eq_true rfl) H (fun M2 h2 D2 H => ?_)
    refine ev_iconst (pc1 := 38) (x := 0) (by decide) (TBof tbs_2 _ rfl) rfl ?_
    refine ev_istore_n (pc1 := 39) (L1 := [(3, .int 0), (0, .ref 29), (1, .ref 1), (2, .int v2)]) (by rw [ml_2]; decide) rfl (TBof tbs_2 _ rfl) rfl ?_
    refine ev_iconst (pc1 := 40) (x := 0) (by decide) (TBof tbs_2 _ rfl) rfl ?_
    refine ev_istore (pc1 := 42) (L1 := [(4, .int 0), (3, .int 0), (0, .ref 29), (1, .ref 1), (2, .int v2)]) (by rw [ml_2]; decide) rfl (TBof tbs_2 _ rfl) rfl ?_
    exact ev_le [2, 3, 4, 1, 0] rfl rfl H
  · replace H := H.2 c1
    refine ev_aload_n (pc1 := 19) rfl rfl (TBof tbs_2 _ rfl) rfl ?_
    refine ev_getP (pc1 := 22) (ci := 1) (k := 2) (a := 30) (TBof tbs_2 _ rfl) rfl (fldof mo_2 fl_1_9) ltc_29 sh_29 nk_1_2 fp_1_2 (by decide) pf_29_2 ?_
    refine ev_iload_n (pc1 := 23) rfl (TBof tbs_2 _ rfl) rfl ?_
    refine ev_iconst (pc1 := 24) (x := 0) (by decide) (TBof tbs_2 _ rfl) rfl ?_
    refine ev_iastore (pc1 := 25) (n := 16) (TBof tbs_2 _ rfl) rfl ltc_30 sh_30 H.1 ?_
    replace H := H.2
    refine ev_iinc (pc1 := 28) (n := 3) (c := 1) (x := v3) (cc := 1) (L1 := [(3, .int (v3 + 1)), (0, .ref 29), (1, .ref 1), (2, .int v2)]) rfl (by rw [ml_2]; decide) (by decide) rfl (TBof tbs_2 _ rfl) rfl ?_
    refine ev_goto (pc1 := 12) (TBof tbs_2 _ rfl) (by decide) ?_
    exact ev_le [1, 2, 3, 0] rfl rfl H
set_option maxRecDepth 100000 in
theorem R_X1_make_42 {d : Nat} {v2 v3 v4 : Int32} {M : Im} {h : Hm} {D : Dm} {Q : Im → Hm → Dm → Prop} (H : ((76 < v4) → (Q M h D)) ∧ (¬ (76 < v4) → (CI d nX1_countSteps [.ref 29, .ref 1] M h D (fun x2 M2 h2 D2 => ((x2 ≤ v3) → (Q M2 h2 D2)) ∧ (¬ (x2 ≤ v3) → (CI d nX1_countSteps [.ref 29, .ref 1] M2 h2 D2 (fun x4 M4 h4 D4 => CV d nX1_addNeedsOfAll [.ref 29, .ref 1] M4 h4 D4 (fun M5 h5 D5 => EvV d nX1_make 42 [(0, .ref 29), (1, .ref 1), (2, .int v2), (3, .int x4), (4, .int (v4 + 1))] [] M5 h5 D5 Q)))))))) : EvV d nX1_make 42 [(0, .ref 29), (1, .ref 1), (2, .int v2), (3, .int v3), (4, .int v4)] [] M h D Q := by
  refine ev_iload (pc1 := 44) rfl (TBof tbs_2 _ rfl) rfl ?_
  refine ev_bipush (pc1 := 46) (x := 76) (by decide) (TBof tbs_2 _ rfl) rfl ?_
  refine ev_icmp (pc1 := 49) (t := 75) (TBof tbs_2 _ rfl) (by decide) rfl (fun c1 => ?_) (fun c1 => ?_)
  · replace H := H.1 c1
    exact ev_return (TBof tbs_2 _ rfl) rt_2 ⟨rfl, H⟩
  · replace H := H.2 c1
    refine ev_aload_n (pc1 := 50) rfl rfl (TBof tbs_2 _ rfl) rfl ?_
    refine ev_aload_n (pc1 := 51) rfl rfl (TBof tbs_2 _ rfl) rfl ?_
    refine ev_callvI (pc1 := 54) (as := [.ref 1]) (r := []) (TBof tbs_2 _ rfl) rfl (lnkof mo_2 ln_1_26) rfl na_3 ltc_29 (sh_29.trans (by rw [mo_3])) (Nat.le_of_ble_eq_true rfl) H (fun x2 M2 h2 D2 H => ?_)
    refine ev_iload_n (pc1 := 55) rfl (TBof tbs_2 _ rfl) rfl ?_
    refine ev_icmp (pc1 := 58) (t := 75) (TBof tbs_2 _ rfl) (by decide) rfl (fun c3 => ?_) (fun c3 => ?_)
    · replace H := H.1 c3
      exact ev_return (TBof tbs_2 _ rfl) rt_2 ⟨rfl, H⟩
    · replace H := H.2 c3
      refine ev_aload_n (pc1 := 59) rfl rfl (TBof tbs_2 _ rfl) rfl ?_
      refine ev_aload_n (pc1 := 60) rfl rfl (TBof tbs_2 _ rfl) rfl ?_
      refine ev_callvI (pc1 := 63) (as := [.ref 1]) (r := []) (TBof tbs_2 _ rfl) rfl (lnkof mo_2 ln_1_26) rfl na_3 ltc_29 (sh_29.trans (by rw [mo_3])) (Nat.le_of_ble_eq_true rfl) H (fun x4 M4 h4 D4 H => ?_)
      refine ev_istore_n (pc1 := 64) (L1 := [(3, .int x4), (0, .ref 29), (1, .ref 1), (2, .int v2), (4, .int v4)]) (by rw [ml_2]; decide) rfl (TBof tbs_2 _ rfl) rfl ?_
      refine ev_aload_n (pc1 := 65) rfl rfl (TBof tbs_2 _ rfl) rfl ?_
      refine ev_aload_n (pc1 := 66) rfl rfl (TBof tbs_2 _ rfl) rfl ?_
      refine ev_callvV (pc1 := 69) (as := [.ref 1]) (r := []) (TBof tbs_2 _ rfl) rfl (lnkof mo_2 ln_1_30) rfl na_7 ltc_29 (sh_29.trans (by rw [mo_7])) (Nat.le_of_ble_eq_true rfl) H (fun M5 h5 D5 H => ?_)
      refine ev_iinc (pc1 := 72) (n := 4) (c := 1) (x := v4) (cc := 1) (L1 := [(4, .int (v4 + 1)), (3, .int x4), (0, .ref 29), (1, .ref 1), (2, .int v2)]) rfl (by rw [ml_2]; decide) (by decide) rfl (TBof tbs_2 _ rfl) rfl ?_
      refine ev_goto (pc1 := 42) (TBof tbs_2 _ rfl) (by decide) ?_
      exact ev_le [2, 3, 4, 1, 0] rfl rfl H
set_option maxRecDepth 100000 in
theorem R_X1_countSteps_0 {d : Nat} {M : Im} {h : Hm} {D : Dm} {Q : Int32 → Im → Hm → Dm → Prop} (H : CI d nJ6_bitCount_0f7a4 [.int (M 29 0)] M h D (fun x1 M1 h1 D1 => CI d nJ6_bitCount_0f7a4 [.int (M1 29 1)] M1 h1 D1 (fun x2 M2 h2 D2 => CI d nX1_countLiftings [.ref 29, .ref 1] M2 h2 D2 (fun x3 M3 h3 D3 => Q ((x1 + x2) + x3) M3 h3 D3)))) : EvI d nX1_countSteps 0 [(0, .ref 29), (1, .ref 1)] [] M h D Q := by
  refine ev_aload_n (pc1 := 1) rfl rfl (TBof tbs_3 _ rfl) rfl ?_
  refine ev_getI (pc1 := 4) (ci := 1) (k := 0) (TBof tbs_3 _ rfl) rfl (fldof mo_3 fl_1_15) ltc_29 sh_29 nk_1_0 fi_1_0 ?_
  refine ev_callsI (pc1 := 7) (as := [.int (M 29 0)]) (r := []) (TBof tbs_3 _ rfl) rfl (lnkof mo_3 ln_1_34) (Or.inl rfl) rfl na_68 (Nat.le_of_ble_eq_true rfl) H (fun x1 M1 h1 D1 H => ?_)
  refine ev_aload_n (pc1 := 8) rfl rfl (TBof tbs_3 _ rfl) rfl ?_
  refine ev_getI (pc1 := 11) (ci := 1) (k := 1) (TBof tbs_3 _ rfl) rfl (fldof mo_3 fl_1_19) ltc_29 sh_29 nk_1_1 fi_1_1 ?_
  refine ev_callsI (pc1 := 14) (as := [.int (M1 29 1)]) (r := [.int x1]) (TBof tbs_3 _ rfl) rfl (lnkof mo_3 ln_1_34) (Or.inl rfl) rfl na_68 (Nat.le_of_ble_eq_true rfl) H (fun x2 M2 h2 D2 H => ?_)
  refine ev_iadd (pc1 := 15) (TBof tbs_3 _ rfl) rfl ?_
  refine ev_aload_n (pc1 := 16) rfl rfl (TBof tbs_3 _ rfl) rfl ?_
  refine ev_aload_n (pc1 := 17) rfl rfl (TBof tbs_3 _ rfl) rfl ?_
  refine ev_callvI (pc1 := 20) (as := [.ref 1]) (r := [.int (x1 + x2)]) (TBof tbs_3 _ rfl) rfl (lnkof mo_3 ln_1_40) rfl na_4 ltc_29 (sh_29.trans (by rw [mo_4])) (Nat.le_of_ble_eq_true rfl) H (fun x3 M3 h3 D3 H => ?_)
  refine ev_iadd (pc1 := 21) (TBof tbs_3 _ rfl) rfl ?_
  exact ev_ireturn (TBof tbs_3 _ rfl) (retI_i rt_3) ⟨_, rfl, H⟩
set_option maxRecDepth 100000 in
theorem R_X1_countLiftings_0 {d : Nat} {M : Im} {h : Hm} {D : Dm} {Q : Int32 → Im → Hm → Dm → Prop} (H : EvI d nX1_countLiftings 4 [(0, .ref 29), (1, .ref 1), (2, .int 0), (3, .int 0)] [] M h D Q) : EvI d nX1_countLiftings 0 [(0, .ref 29), (1, .ref 1)] [] M h D Q := by
  refine ev_iconst (pc1 := 1) (x := 0) (by decide) (TBof tbs_4 _ rfl) rfl ?_
  refine ev_istore_n (pc1 := 2) (L1 := [(2, .int 0), (0, .ref 29), (1, .ref 1)]) (by rw [ml_4]; decide) rfl (TBof tbs_4 _ rfl) rfl ?_
  refine ev_iconst (pc1 := 3) (x := 0) (by decide) (TBof tbs_4 _ rfl) rfl ?_
  refine ev_istore_n (pc1 := 4) (L1 := [(3, .int 0), (2, .int 0), (0, .ref 29), (1, .ref 1)]) (by rw [ml_4]; decide) rfl (TBof tbs_4 _ rfl) rfl ?_
  exact ev_le [2, 3, 1, 0] rfl rfl H
set_option maxRecDepth 100000 in
theorem R_X1_countLiftings_4 {d : Nat} {v2 v3 : Int32} {M : Im} {h : Hm} {D : Dm} {Q : Int32 → Im → Hm → Dm → Prop} (H : ((16 ≤ v3) → (Q v2 M h D)) ∧ (¬ (16 ≤ v3) → (vp_in v3 16 ∧ (vp_in v3 16 ∧ (1 ≤ d ∧ (∀ w2 : Int32, w2 = v2 + (if 0 < ((M 30 (v3.toNatClampNeg)) - (M 7 (v3.toNatClampNeg))) then ((M 30 (v3.toNatClampNeg)) - (M 7 (v3.toNatClampNeg))) else 0) → (EvI d nX1_countLiftings 4 [(0, .ref 29), (1, .ref 1), (2, .int w2), (3, .int (v3 + 1))] [] M h D Q))))))) : EvI d nX1_countLiftings 4 [(0, .ref 29), (1, .ref 1), (2, .int v2), (3, .int v3)] [] M h D Q := by
  refine ev_iload_n (pc1 := 5) rfl (TBof tbs_4 _ rfl) rfl ?_
  refine ev_bipush (pc1 := 7) (x := 16) (by decide) (TBof tbs_4 _ rfl) rfl ?_
  refine ev_icmp (pc1 := 10) (t := 36) (TBof tbs_4 _ rfl) (by decide) rfl (fun c1 => ?_) (fun c1 => ?_)
  · replace H := H.1 c1
    refine ev_iload_n (pc1 := 37) rfl (TBof tbs_4 _ rfl) rfl ?_
    exact ev_ireturn (TBof tbs_4 _ rfl) (retI_i rt_4) ⟨_, rfl, H⟩
  · replace H := H.2 c1
    refine ev_iload_n (pc1 := 11) rfl (TBof tbs_4 _ rfl) rfl ?_
    refine ev_iconst (pc1 := 12) (x := 0) (by decide) (TBof tbs_4 _ rfl) rfl ?_
    refine ev_aload_n (pc1 := 13) rfl rfl (TBof tbs_4 _ rfl) rfl ?_
    refine ev_getP (pc1 := 16) (ci := 1) (k := 2) (a := 30) (TBof tbs_4 _ rfl) rfl (fldof mo_4 fl_1_9) ltc_29 sh_29 nk_1_2 fp_1_2 (by decide) pf_29_2 ?_
    refine ev_iload_n (pc1 := 17) rfl (TBof tbs_4 _ rfl) rfl ?_
    refine ev_iaload (pc1 := 18) (n := 16) (TBof tbs_4 _ rfl) rfl ltc_30 sh_30 H.1 ?_
    replace H := H.2
    refine ev_aload_n (pc1 := 19) rfl rfl (TBof tbs_4 _ rfl) rfl ?_
    refine ev_getP (pc1 := 22) (ci := 2) (k := 12) (a := 7) (TBof tbs_4 _ rfl) rfl (fldof mo_4 fl_1_43) ltc_1 sh_1 nk_2_12 fp_2_12 (by decide) pf_1_12 ?_
    refine ev_iload_n (pc1 := 23) rfl (TBof tbs_4 _ rfl) rfl ?_
    refine ev_iaload (pc1 := 24) (n := 16) (TBof tbs_4 _ rfl) rfl ltc_7 sh_7 H.1 ?_
    replace H := H.2
    refine ev_isub (pc1 := 25) (TBof tbs_4 _ rfl) rfl ?_
    refine ev_max (pc1 := 28) (TBof tbs_4 _ rfl) rfl (lnkof mo_4 ln_1_48) (Nat.le_of_ble_eq_true rfl) H.1 ?_
    replace H := H.2
    refine ev_iadd (pc1 := 29) (TBof tbs_4 _ rfl) rfl ?_
    refine ev_istore_n (pc1 := 30) (L1 := [(2, .int (v2 + (if 0 < ((M 30 (v3.toNatClampNeg)) - (M 7 (v3.toNatClampNeg))) then ((M 30 (v3.toNatClampNeg)) - (M 7 (v3.toNatClampNeg))) else 0))), (0, .ref 29), (1, .ref 1), (3, .int v3)]) (by rw [ml_4]; decide) rfl (TBof tbs_4 _ rfl) rfl ?_
    generalize e2 : v2 + (if 0 < ((M 30 (v3.toNatClampNeg)) - (M 7 (v3.toNatClampNeg))) then ((M 30 (v3.toNatClampNeg)) - (M 7 (v3.toNatClampNeg))) else 0) = w2
    replace H := H w2 e2.symm
    refine ev_iinc (pc1 := 33) (n := 3) (c := 1) (x := v3) (cc := 1) (L1 := [(3, .int (v3 + 1)), (2, .int w2), (0, .ref 29), (1, .ref 1)]) rfl (by rw [ml_4]; decide) (by decide) rfl (TBof tbs_4 _ rfl) rfl ?_
    refine ev_goto (pc1 := 4) (TBof tbs_4 _ rfl) (by decide) ?_
    exact ev_le [2, 3, 1, 0] rfl rfl H
set_option maxRecDepth 100000 in
theorem R_X1_firstStep_0 {d : Nat} {M : Im} {h : Hm} {D : Dm} {Q : Int32 → Im → Hm → Dm → Prop} (H : CI d nX2_openableNow [.ref 1] M h D (fun x1 M1 h1 D1 => EvI d nX1_firstStep 12 [(0, .ref 29), (1, .ref 1), (2, .int ((M 29 0) &&& x1)), (3, .int 0)] [] M1 h1 D1 Q)) : EvI d nX1_firstStep 0 [(0, .ref 29), (1, .ref 1)] [] M h D Q := by
  refine ev_aload_n (pc1 := 1) rfl rfl (TBof tbs_5 _ rfl) rfl ?_
  refine ev_getI (pc1 := 4) (ci := 1) (k := 0) (TBof tbs_5 _ rfl) rfl (fldof mo_5 fl_1_15) ltc_29 sh_29 nk_1_0 fi_1_0 ?_
  refine ev_aload_n (pc1 := 5) rfl rfl (TBof tbs_5 _ rfl) rfl ?_
  refine ev_callvI (pc1 := 8) (as := []) (r := [.int (M 29 0)]) (TBof tbs_5 _ rfl) rfl (lnkof mo_5 ln_1_54) rfl na_33 ltc_1 (sh_1.trans (by rw [mo_33])) (Nat.le_of_ble_eq_true rfl) H (fun x1 M1 h1 D1 H => ?_)
  refine ev_iand (pc1 := 9) (TBof tbs_5 _ rfl) rfl ?_
  refine ev_istore_n (pc1 := 10) (L1 := [(2, .int ((M 29 0) &&& x1)), (0, .ref 29), (1, .ref 1)]) (by rw [ml_5]; decide) rfl (TBof tbs_5 _ rfl) rfl ?_
  refine ev_iconst (pc1 := 11) (x := 0) (by decide) (TBof tbs_5 _ rfl) rfl ?_
  refine ev_istore_n (pc1 := 12) (L1 := [(3, .int 0), (2, .int ((M 29 0) &&& x1)), (0, .ref 29), (1, .ref 1)]) (by rw [ml_5]; decide) rfl (TBof tbs_5 _ rfl) rfl ?_
  exact ev_le [2, 3, 1, 0] rfl rfl H
set_option maxRecDepth 100000 in
theorem R_X1_firstStep_12 {d : Nat} {v2 v3 : Int32} {M : Im} {h : Hm} {D : Dm} {Q : Int32 → Im → Hm → Dm → Prop} (H : ((16 ≤ v3) → (EvI d nX1_firstStep 39 [(0, .ref 29), (1, .ref 1), (2, .int v2), (3, .int 0)] [] M h D Q)) ∧ (¬ (16 ≤ v3) → (CI d nX3_isIn [.int v2, .int v3] M h D (fun x2 M2 h2 D2 => ((x2 = 0) → (EvI d nX1_firstStep 12 [(0, .ref 29), (1, .ref 1), (2, .int v2), (3, .int (v3 + 1))] [] M2 h2 D2 Q)) ∧ (¬ (x2 = 0) → (Q (100 + v3) M2 h2 D2)))))) : EvI d nX1_firstStep 12 [(0, .ref 29), (1, .ref 1), (2, .int v2), (3, .int v3)] [] M h D Q := by
  refine ev_iload_n (pc1 := 13) rfl (TBof tbs_5 _ rfl) rfl ?_
  refine ev_bipush (pc1 := 15) (x := 16) (by decide) (TBof tbs_5 _ rfl) rfl ?_
  refine ev_icmp (pc1 := 18) (t := 37) (TBof tbs_5 _ rfl) (by decide) rfl (fun c1 => ?_) (fun c1 => ?_)
  · replace H := H.1 c1
    refine ev_iconst (pc1 := 38) (x := 0) (by decide) (TBof tbs_5 _ rfl) rfl ?_
    refine ev_istore_n (pc1 := 39) (L1 := [(3, .int 0), (0, .ref 29), (1, .ref 1), (2, .int v2)]) (by rw [ml_5]; decide) rfl (TBof tbs_5 _ rfl) rfl ?_
    exact ev_le [1, 2, 3, 0] rfl rfl H
  · replace H := H.2 c1
    refine ev_iload_n (pc1 := 19) rfl (TBof tbs_5 _ rfl) rfl ?_
    refine ev_iload_n (pc1 := 20) rfl (TBof tbs_5 _ rfl) rfl ?_
    refine ev_callsI (pc1 := 23) (as := [.int v2, .int v3]) (r := []) (TBof tbs_5 _ rfl) rfl (lnkof mo_5 ln_1_58) (Or.inr rfl) rfl na_61 (Nat.le_of_ble_eq_true rfl) H (fun x2 M2 h2 D2 H => ?_)
    refine ev_if (pc1 := 26) (t := 31) (TBof tbs_5 _ rfl) (by decide) rfl (fun c3 => ?_) (fun c3 => ?_)
    · replace H := H.1 c3
      refine ev_iinc (pc1 := 34) (n := 3) (c := 1) (x := v3) (cc := 1) (L1 := [(3, .int (v3 + 1)), (0, .ref 29), (1, .ref 1), (2, .int v2)]) rfl (by rw [ml_5]; decide) (by decide) rfl (TBof tbs_5 _ rfl) rfl ?_
      refine ev_goto (pc1 := 12) (TBof tbs_5 _ rfl) (by decide) ?_
      exact ev_le [1, 2, 3, 0] rfl rfl H
    · replace H := H.2 c3
      refine ev_bipush (pc1 := 28) (x := 100) (by decide) (TBof tbs_5 _ rfl) rfl ?_
      refine ev_iload_n (pc1 := 29) rfl (TBof tbs_5 _ rfl) rfl ?_
      refine ev_iadd (pc1 := 30) (TBof tbs_5 _ rfl) rfl ?_
      exact ev_ireturn (TBof tbs_5 _ rfl) (retI_i rt_5) ⟨_, rfl, H⟩
set_option maxRecDepth 100000 in
theorem R_X1_firstStep_39 {d : Nat} {v2 v3 : Int32} {M : Im} {h : Hm} {D : Dm} {Q : Int32 → Im → Hm → Dm → Prop} (H : ((12 ≤ v3) → (EvI d nX1_firstStep 78 [(0, .ref 29), (1, .ref 1), (2, .int v2), (3, .int 0)] [] M h D Q)) ∧ (¬ (12 ≤ v3) → (CI d nX3_isIn [.int (M 29 1), .int v3] M h D (fun x2 M2 h2 D2 => ((x2 = 0) → (EvI d nX1_firstStep 39 [(0, .ref 29), (1, .ref 1), (2, .int v2), (3, .int (v3 + 1))] [] M2 h2 D2 Q)) ∧ (¬ (x2 = 0) → (CI d nX2_canTake [.ref 1, .int v3] M2 h2 D2 (fun x4 M4 h4 D4 => ((x4 = 0) → (EvI d nX1_firstStep 39 [(0, .ref 29), (1, .ref 1), (2, .int v2), (3, .int (v3 + 1))] [] M4 h4 D4 Q)) ∧ (¬ (x4 = 0) → (Q (200 + v3) M4 h4 D4))))))))) : EvI d nX1_firstStep 39 [(0, .ref 29), (1, .ref 1), (2, .int v2), (3, .int v3)] [] M h D Q := by
  refine ev_iload_n (pc1 := 40) rfl (TBof tbs_5 _ rfl) rfl ?_
  refine ev_bipush (pc1 := 42) (x := 12) (by decide) (TBof tbs_5 _ rfl) rfl ?_
  refine ev_icmp (pc1 := 45) (t := 76) (TBof tbs_5 _ rfl) (by decide) rfl (fun c1 => ?_) (fun c1 => ?_)
  · replace H := H.1 c1
    refine ev_iconst (pc1 := 77) (x := 0) (by decide) (TBof tbs_5 _ rfl) rfl ?_
    refine ev_istore_n (pc1 := 78) (L1 := [(3, .int 0), (0, .ref 29), (1, .ref 1), (2, .int v2)]) (by rw [ml_5]; decide) rfl (TBof tbs_5 _ rfl) rfl ?_
    exact ev_le [1, 2, 3, 0] rfl rfl H
  · replace H := H.2 c1
    refine ev_aload_n (pc1 := 46) rfl rfl (TBof tbs_5 _ rfl) rfl ?_
    refine ev_getI (pc1 := 49) (ci := 1) (k := 1) (TBof tbs_5 _ rfl) rfl (fldof mo_5 fl_1_19) ltc_29 sh_29 nk_1_1 fi_1_1 ?_
    refine ev_iload_n (pc1 := 50) rfl (TBof tbs_5 _ rfl) rfl ?_
    refine ev_callsI (pc1 := 53) (as := [.int (M 29 1), .int v3]) (r := []) (TBof tbs_5 _ rfl) rfl (lnkof mo_5 ln_1_58) (Or.inr rfl) rfl na_61 (Nat.le_of_ble_eq_true rfl) H (fun x2 M2 h2 D2 H => ?_)
    refine ev_if (pc1 := 56) (t := 70) (TBof tbs_5 _ rfl) (by decide) rfl (fun c3 => ?_) (fun c3 => ?_)
    · replace H := H.1 c3
      refine ev_iinc (pc1 := 73) (n := 3) (c := 1) (x := v3) (cc := 1) (L1 := [(3, .int (v3 + 1)), (0, .ref 29), (1, .ref 1), (2, .int v2)]) rfl (by rw [ml_5]; decide) (by decide) rfl (TBof tbs_5 _ rfl) rfl ?_
      refine ev_goto (pc1 := 39) (TBof tbs_5 _ rfl) (by decide) ?_
      exact ev_le [1, 2, 3, 0] rfl rfl H
    · replace H := H.2 c3
      refine ev_aload_n (pc1 := 57) rfl rfl (TBof tbs_5 _ rfl) rfl ?_
      refine ev_iload_n (pc1 := 58) rfl (TBof tbs_5 _ rfl) rfl ?_
      refine ev_callvI (pc1 := 61) (as := [.int v3]) (r := []) (TBof tbs_5 _ rfl) rfl (lnkof mo_5 ln_1_62) rfl na_26 ltc_1 (sh_1.trans (by rw [mo_26])) (Nat.le_of_ble_eq_true rfl) H (fun x4 M4 h4 D4 H => ?_)
      refine ev_if (pc1 := 64) (t := 70) (TBof tbs_5 _ rfl) (by decide) rfl (fun c5 => ?_) (fun c5 => ?_)
      · replace H := H.1 c5
        refine ev_iinc (pc1 := 73) (n := 3) (c := 1) (x := v3) (cc := 1) (L1 := [(3, .int (v3 + 1)), (0, .ref 29), (1, .ref 1), (2, .int v2)]) rfl (by rw [ml_5]; decide) (by decide) rfl (TBof tbs_5 _ rfl) rfl ?_
        refine ev_goto (pc1 := 39) (TBof tbs_5 _ rfl) (by decide) ?_
        exact ev_le [1, 2, 3, 0] rfl rfl H
      · replace H := H.2 c5
        refine ev_sipush (pc1 := 67) (x := 200) (by decide) (TBof tbs_5 _ rfl) rfl ?_
        refine ev_iload_n (pc1 := 68) rfl (TBof tbs_5 _ rfl) rfl ?_
        refine ev_iadd (pc1 := 69) (TBof tbs_5 _ rfl) rfl ?_
        exact ev_ireturn (TBof tbs_5 _ rfl) (retI_i rt_5) ⟨_, rfl, H⟩
set_option maxRecDepth 100000 in
theorem R_X1_firstStep_78 {d : Nat} {v2 v3 : Int32} {M : Im} {h : Hm} {D : Dm} {Q : Int32 → Im → Hm → Dm → Prop} (H : ((16 ≤ v3) → (Q (-5) M h D)) ∧ (¬ (16 ≤ v3) → (CI d nX1_isLiftingIn [.ref 29, .ref 1, .int v3] M h D (fun x2 M2 h2 D2 => ((x2 = 0) → (EvI d nX1_firstStep 78 [(0, .ref 29), (1, .ref 1), (2, .int v2), (3, .int (v3 + 1))] [] M2 h2 D2 Q)) ∧ (¬ (x2 = 0) → (CI d nX2_canLift [.ref 1, .int v3] M2 h2 D2 (fun x4 M4 h4 D4 => ((x4 = 0) → (EvI d nX1_firstStep 78 [(0, .ref 29), (1, .ref 1), (2, .int v2), (3, .int (v3 + 1))] [] M4 h4 D4 Q)) ∧ (¬ (x4 = 0) → (Q (300 + v3) M4 h4 D4))))))))) : EvI d nX1_firstStep 78 [(0, .ref 29), (1, .ref 1), (2, .int v2), (3, .int v3)] [] M h D Q := by
  refine ev_iload_n (pc1 := 79) rfl (TBof tbs_5 _ rfl) rfl ?_
  refine ev_bipush (pc1 := 81) (x := 16) (by decide) (TBof tbs_5 _ rfl) rfl ?_
  refine ev_icmp (pc1 := 84) (t := 113) (TBof tbs_5 _ rfl) (by decide) rfl (fun c1 => ?_) (fun c1 => ?_)
  · replace H := H.1 c1
    refine ev_bipush (pc1 := 115) (x := (-5)) (by decide) (TBof tbs_5 _ rfl) rfl ?_
    exact ev_ireturn (TBof tbs_5 _ rfl) (retI_i rt_5) ⟨_, rfl, H⟩
  · replace H := H.2 c1
    refine ev_aload_n (pc1 := 85) rfl rfl (TBof tbs_5 _ rfl) rfl ?_
    refine ev_aload_n (pc1 := 86) rfl rfl (TBof tbs_5 _ rfl) rfl ?_
    refine ev_iload_n (pc1 := 87) rfl (TBof tbs_5 _ rfl) rfl ?_
    refine ev_callvI (pc1 := 90) (as := [.ref 1, .int v3]) (r := []) (TBof tbs_5 _ rfl) rfl (lnkof mo_5 ln_1_66) rfl na_6 ltc_29 (sh_29.trans (by rw [mo_6])) (Nat.le_of_ble_eq_true rfl) H (fun x2 M2 h2 D2 H => ?_)
    refine ev_if (pc1 := 93) (t := 107) (TBof tbs_5 _ rfl) (by decide) rfl (fun c3 => ?_) (fun c3 => ?_)
    · replace H := H.1 c3
      refine ev_iinc (pc1 := 110) (n := 3) (c := 1) (x := v3) (cc := 1) (L1 := [(3, .int (v3 + 1)), (0, .ref 29), (1, .ref 1), (2, .int v2)]) rfl (by rw [ml_5]; decide) (by decide) rfl (TBof tbs_5 _ rfl) rfl ?_
      refine ev_goto (pc1 := 78) (TBof tbs_5 _ rfl) (by decide) ?_
      exact ev_le [1, 2, 3, 0] rfl rfl H
    · replace H := H.2 c3
      refine ev_aload_n (pc1 := 94) rfl rfl (TBof tbs_5 _ rfl) rfl ?_
      refine ev_iload_n (pc1 := 95) rfl (TBof tbs_5 _ rfl) rfl ?_
      refine ev_callvI (pc1 := 98) (as := [.int v3]) (r := []) (TBof tbs_5 _ rfl) rfl (lnkof mo_5 ln_1_70) rfl na_25 ltc_1 (sh_1.trans (by rw [mo_25])) (Nat.le_of_ble_eq_true rfl) H (fun x4 M4 h4 D4 H => ?_)
      refine ev_if (pc1 := 101) (t := 107) (TBof tbs_5 _ rfl) (by decide) rfl (fun c5 => ?_) (fun c5 => ?_)
      · replace H := H.1 c5
        refine ev_iinc (pc1 := 110) (n := 3) (c := 1) (x := v3) (cc := 1) (L1 := [(3, .int (v3 + 1)), (0, .ref 29), (1, .ref 1), (2, .int v2)]) rfl (by rw [ml_5]; decide) (by decide) rfl (TBof tbs_5 _ rfl) rfl ?_
        refine ev_goto (pc1 := 78) (TBof tbs_5 _ rfl) (by decide) ?_
        exact ev_le [1, 2, 3, 0] rfl rfl H
      · replace H := H.2 c5
        refine ev_sipush (pc1 := 104) (x := 300) (by decide) (TBof tbs_5 _ rfl) rfl ?_
        refine ev_iload_n (pc1 := 105) rfl (TBof tbs_5 _ rfl) rfl ?_
        refine ev_iadd (pc1 := 106) (TBof tbs_5 _ rfl) rfl ?_
        exact ev_ireturn (TBof tbs_5 _ rfl) (retI_i rt_5) ⟨_, rfl, H⟩
set_option maxRecDepth 100000 in
theorem R_X1_isLiftingIn_0 {d : Nat} {v2 : Int32} {M : Im} {h : Hm} {D : Dm} {Q : Int32 → Im → Hm → Dm → Prop} (H : vp_in v2 16 ∧ (vp_in v2 16 ∧ ((((M 30 (v2.toNatClampNeg)) ≤ (M 7 (v2.toNatClampNeg))) → (Q 0 M h D)) ∧ (¬ ((M 30 (v2.toNatClampNeg)) ≤ (M 7 (v2.toNatClampNeg))) → (Q 1 M h D))))) : EvI d nX1_isLiftingIn 0 [(0, .ref 29), (1, .ref 1), (2, .int v2)] [] M h D Q := by
  refine ev_aload_n (pc1 := 1) rfl rfl (TBof tbs_6 _ rfl) rfl ?_
  refine ev_getP (pc1 := 4) (ci := 1) (k := 2) (a := 30) (TBof tbs_6 _ rfl) rfl (fldof mo_6 fl_1_9) ltc_29 sh_29 nk_1_2 fp_1_2 (by decide) pf_29_2 ?_
  refine ev_iload_n (pc1 := 5) rfl (TBof tbs_6 _ rfl) rfl ?_
  refine ev_iaload (pc1 := 6) (n := 16) (TBof tbs_6 _ rfl) rfl ltc_30 sh_30 H.1 ?_
  replace H := H.2
  refine ev_aload_n (pc1 := 7) rfl rfl (TBof tbs_6 _ rfl) rfl ?_
  refine ev_getP (pc1 := 10) (ci := 2) (k := 12) (a := 7) (TBof tbs_6 _ rfl) rfl (fldof mo_6 fl_1_43) ltc_1 sh_1 nk_2_12 fp_2_12 (by decide) pf_1_12 ?_
  refine ev_iload_n (pc1 := 11) rfl (TBof tbs_6 _ rfl) rfl ?_
  refine ev_iaload (pc1 := 12) (n := 16) (TBof tbs_6 _ rfl) rfl ltc_7 sh_7 H.1 ?_
  replace H := H.2
  refine ev_icmp (pc1 := 15) (t := 19) (TBof tbs_6 _ rfl) (by decide) rfl (fun c1 => ?_) (fun c1 => ?_)
  · replace H := H.1 c1
    refine ev_iconst (pc1 := 20) (x := 0) (by decide) (TBof tbs_6 _ rfl) rfl ?_
    exact ev_ireturn (TBof tbs_6 _ rfl) (retI_z rt_6 (Or.inl rfl)) ⟨_, rfl, H⟩
  · replace H := H.2 c1
    refine ev_iconst (pc1 := 16) (x := 1) (by decide) (TBof tbs_6 _ rfl) rfl ?_
    refine ev_goto (pc1 := 20) (TBof tbs_6 _ rfl) (by decide) ?_
    exact ev_ireturn (TBof tbs_6 _ rfl) (retI_z rt_6 (Or.inr rfl)) ⟨_, rfl, H⟩
set_option maxRecDepth 100000 in
theorem R_X1_addNeedsOfAll_0 {d : Nat} {M : Im} {h : Hm} {D : Dm} {Q : Im → Hm → Dm → Prop} (H : EvV d nX1_addNeedsOfAll 2 [(0, .ref 29), (1, .ref 1), (2, .int 0)] [] M h D Q) : EvV d nX1_addNeedsOfAll 0 [(0, .ref 29), (1, .ref 1)] [] M h D Q := by
  refine ev_iconst (pc1 := 1) (x := 0) (by decide) (TBof tbs_7 _ rfl) rfl ?_
  refine ev_istore_n (pc1 := 2) (L1 := [(2, .int 0), (0, .ref 29), (1, .ref 1)]) (by rw [ml_7]; decide) rfl (TBof tbs_7 _ rfl) rfl ?_
  exact ev_le [1, 2, 0] rfl rfl H
set_option maxRecDepth 100000 in
theorem R_X1_addNeedsOfAll_2 {d : Nat} {v2 : Int32} {M : Im} {h : Hm} {D : Dm} {Q : Im → Hm → Dm → Prop} (H : ((16 ≤ v2) → (EvV d nX1_addNeedsOfAll 55 [(0, .ref 29), (1, .ref 1), (2, .int 0)] [] M h D Q)) ∧ (¬ (16 ≤ v2) → (CI d nX3_isIn [.int (M 29 0), .int v2] M h D (fun x2 M2 h2 D2 => ((x2 = 0) → (EvV d nX1_addNeedsOfAll 25 [(0, .ref 29), (1, .ref 1), (2, .int v2)] [] M2 h2 D2 Q)) ∧ (¬ (x2 = 0) → (CV d nX1_addNeedsOfOpening [.ref 29, .ref 1, .int v2] M2 h2 D2 (fun M4 h4 D4 => EvV d nX1_addNeedsOfAll 25 [(0, .ref 29), (1, .ref 1), (2, .int v2)] [] M4 h4 D4 Q))))))) : EvV d nX1_addNeedsOfAll 2 [(0, .ref 29), (1, .ref 1), (2, .int v2)] [] M h D Q := by
  refine ev_iload_n (pc1 := 3) rfl (TBof tbs_7 _ rfl) rfl ?_
  refine ev_bipush (pc1 := 5) (x := 16) (by decide) (TBof tbs_7 _ rfl) rfl ?_
  refine ev_icmp (pc1 := 8) (t := 53) (TBof tbs_7 _ rfl) (by decide) rfl (fun c1 => ?_) (fun c1 => ?_)
  · replace H := H.1 c1
    refine ev_iconst (pc1 := 54) (x := 0) (by decide) (TBof tbs_7 _ rfl) rfl ?_
    refine ev_istore_n (pc1 := 55) (L1 := [(2, .int 0), (0, .ref 29), (1, .ref 1)]) (by rw [ml_7]; decide) rfl (TBof tbs_7 _ rfl) rfl ?_
    exact ev_le [1, 2, 0] rfl rfl H
  · replace H := H.2 c1
    refine ev_aload_n (pc1 := 9) rfl rfl (TBof tbs_7 _ rfl) rfl ?_
    refine ev_getI (pc1 := 12) (ci := 1) (k := 0) (TBof tbs_7 _ rfl) rfl (fldof mo_7 fl_1_15) ltc_29 sh_29 nk_1_0 fi_1_0 ?_
    refine ev_iload_n (pc1 := 13) rfl (TBof tbs_7 _ rfl) rfl ?_
    refine ev_callsI (pc1 := 16) (as := [.int (M 29 0), .int v2]) (r := []) (TBof tbs_7 _ rfl) rfl (lnkof mo_7 ln_1_58) (Or.inr rfl) rfl na_61 (Nat.le_of_ble_eq_true rfl) H (fun x2 M2 h2 D2 H => ?_)
    refine ev_if (pc1 := 19) (t := 25) (TBof tbs_7 _ rfl) (by decide) rfl (fun c3 => ?_) (fun c3 => ?_)
    · replace H := H.1 c3
      exact ev_le [0, 1, 2] rfl rfl H
    · replace H := H.2 c3
      refine ev_aload_n (pc1 := 20) rfl rfl (TBof tbs_7 _ rfl) rfl ?_
      refine ev_aload_n (pc1 := 21) rfl rfl (TBof tbs_7 _ rfl) rfl ?_
      refine ev_iload_n (pc1 := 22) rfl (TBof tbs_7 _ rfl) rfl ?_
      refine ev_callvV (pc1 := 25) (as := [.ref 1, .int v2]) (r := []) (TBof tbs_7 _ rfl) rfl (lnkof mo_7 ln_1_73) rfl na_9 ltc_29 (sh_29.trans (by rw [mo_9])) (Nat.le_of_ble_eq_true rfl) H (fun M4 h4 D4 H => ?_)
      exact ev_le [0, 1, 2] rfl rfl H
set_option maxRecDepth 100000 in
theorem R_X1_addNeedsOfAll_25 {d : Nat} {v2 : Int32} {M : Im} {h : Hm} {D : Dm} {Q : Im → Hm → Dm → Prop} (H : CI d nX1_isLiftingIn [.ref 29, .ref 1, .int v2] M h D (fun x1 M1 h1 D1 => ((x1 = 0) → (EvV d nX1_addNeedsOfAll 2 [(0, .ref 29), (1, .ref 1), (2, .int (v2 + 1))] [] M1 h1 D1 Q)) ∧ (¬ (x1 = 0) → (CV d nX1_addWayInto [.ref 29, .ref 1, .int v2] M1 h1 D1 (fun M3 h3 D3 => CV d nX1_addTaking [.ref 29, .ref 1, .int 10] M3 h3 D3 (fun M4 h4 D4 => EvV d nX1_addNeedsOfAll 2 [(0, .ref 29), (1, .ref 1), (2, .int (v2 + 1))] [] M4 h4 D4 Q)))))) : EvV d nX1_addNeedsOfAll 25 [(0, .ref 29), (1, .ref 1), (2, .int v2)] [] M h D Q := by
  refine ev_aload_n (pc1 := 26) rfl rfl (TBof tbs_7 _ rfl) rfl ?_
  refine ev_aload_n (pc1 := 27) rfl rfl (TBof tbs_7 _ rfl) rfl ?_
  refine ev_iload_n (pc1 := 28) rfl (TBof tbs_7 _ rfl) rfl ?_
  refine ev_callvI (pc1 := 31) (as := [.ref 1, .int v2]) (r := []) (TBof tbs_7 _ rfl) rfl (lnkof mo_7 ln_1_66) rfl na_6 ltc_29 (sh_29.trans (by rw [mo_6])) (Nat.le_of_ble_eq_true rfl) H (fun x1 M1 h1 D1 H => ?_)
  refine ev_if (pc1 := 34) (t := 47) (TBof tbs_7 _ rfl) (by decide) rfl (fun c2 => ?_) (fun c2 => ?_)
  · replace H := H.1 c2
    refine ev_iinc (pc1 := 50) (n := 2) (c := 1) (x := v2) (cc := 1) (L1 := [(2, .int (v2 + 1)), (0, .ref 29), (1, .ref 1)]) rfl (by rw [ml_7]; decide) (by decide) rfl (TBof tbs_7 _ rfl) rfl ?_
    refine ev_goto (pc1 := 2) (TBof tbs_7 _ rfl) (by decide) ?_
    exact ev_le [1, 2, 0] rfl rfl H
  · replace H := H.2 c2
    refine ev_aload_n (pc1 := 35) rfl rfl (TBof tbs_7 _ rfl) rfl ?_
    refine ev_aload_n (pc1 := 36) rfl rfl (TBof tbs_7 _ rfl) rfl ?_
    refine ev_iload_n (pc1 := 37) rfl (TBof tbs_7 _ rfl) rfl ?_
    refine ev_callvV (pc1 := 40) (as := [.ref 1, .int v2]) (r := []) (TBof tbs_7 _ rfl) rfl (lnkof mo_7 ln_1_22) rfl na_8 ltc_29 (sh_29.trans (by rw [mo_8])) (Nat.le_of_ble_eq_true rfl) H (fun M3 h3 D3 H => ?_)
    refine ev_aload_n (pc1 := 41) rfl rfl (TBof tbs_7 _ rfl) rfl ?_
    refine ev_aload_n (pc1 := 42) rfl rfl (TBof tbs_7 _ rfl) rfl ?_
    refine ev_bipush (pc1 := 44) (x := 10) (by decide) (TBof tbs_7 _ rfl) rfl ?_
    refine ev_callvV (pc1 := 47) (as := [.ref 1, .int 10]) (r := []) (TBof tbs_7 _ rfl) rfl (lnkof mo_7 ln_1_76) rfl na_12 ltc_29 (sh_29.trans (by rw [mo_12])) (Nat.le_of_ble_eq_true rfl) H (fun M4 h4 D4 H => ?_)
    refine ev_iinc (pc1 := 50) (n := 2) (c := 1) (x := v2) (cc := 1) (L1 := [(2, .int (v2 + 1)), (0, .ref 29), (1, .ref 1)]) rfl (by rw [ml_7]; decide) (by decide) rfl (TBof tbs_7 _ rfl) rfl ?_
    refine ev_goto (pc1 := 2) (TBof tbs_7 _ rfl) (by decide) ?_
    exact ev_le [1, 2, 0] rfl rfl H
set_option maxRecDepth 100000 in
theorem R_X1_addNeedsOfAll_55 {d : Nat} {v2 : Int32} {M : Im} {h : Hm} {D : Dm} {Q : Im → Hm → Dm → Prop} (H : ((12 ≤ v2) → (Q M h D)) ∧ (¬ (12 ≤ v2) → (CI d nX3_isIn [.int (M 29 1), .int v2] M h D (fun x2 M2 h2 D2 => ((x2 = 0) → (EvV d nX1_addNeedsOfAll 55 [(0, .ref 29), (1, .ref 1), (2, .int (v2 + 1))] [] M2 h2 D2 Q)) ∧ (¬ (x2 = 0) → (CV d nX1_addNeedsOfTaking [.ref 29, .ref 1, .int v2] M2 h2 D2 (fun M4 h4 D4 => EvV d nX1_addNeedsOfAll 55 [(0, .ref 29), (1, .ref 1), (2, .int (v2 + 1))] [] M4 h4 D4 Q))))))) : EvV d nX1_addNeedsOfAll 55 [(0, .ref 29), (1, .ref 1), (2, .int v2)] [] M h D Q := by
  refine ev_iload_n (pc1 := 56) rfl (TBof tbs_7 _ rfl) rfl ?_
  refine ev_bipush (pc1 := 58) (x := 12) (by decide) (TBof tbs_7 _ rfl) rfl ?_
  refine ev_icmp (pc1 := 61) (t := 84) (TBof tbs_7 _ rfl) (by decide) rfl (fun c1 => ?_) (fun c1 => ?_)
  · replace H := H.1 c1
    exact ev_return (TBof tbs_7 _ rfl) rt_7 ⟨rfl, H⟩
  · replace H := H.2 c1
    refine ev_aload_n (pc1 := 62) rfl rfl (TBof tbs_7 _ rfl) rfl ?_
    refine ev_getI (pc1 := 65) (ci := 1) (k := 1) (TBof tbs_7 _ rfl) rfl (fldof mo_7 fl_1_19) ltc_29 sh_29 nk_1_1 fi_1_1 ?_
    refine ev_iload_n (pc1 := 66) rfl (TBof tbs_7 _ rfl) rfl ?_
    refine ev_callsI (pc1 := 69) (as := [.int (M 29 1), .int v2]) (r := []) (TBof tbs_7 _ rfl) rfl (lnkof mo_7 ln_1_58) (Or.inr rfl) rfl na_61 (Nat.le_of_ble_eq_true rfl) H (fun x2 M2 h2 D2 H => ?_)
    refine ev_if (pc1 := 72) (t := 78) (TBof tbs_7 _ rfl) (by decide) rfl (fun c3 => ?_) (fun c3 => ?_)
    · replace H := H.1 c3
      refine ev_iinc (pc1 := 81) (n := 2) (c := 1) (x := v2) (cc := 1) (L1 := [(2, .int (v2 + 1)), (0, .ref 29), (1, .ref 1)]) rfl (by rw [ml_7]; decide) (by decide) rfl (TBof tbs_7 _ rfl) rfl ?_
      refine ev_goto (pc1 := 55) (TBof tbs_7 _ rfl) (by decide) ?_
      exact ev_le [1, 2, 0] rfl rfl H
    · replace H := H.2 c3
      refine ev_aload_n (pc1 := 73) rfl rfl (TBof tbs_7 _ rfl) rfl ?_
      refine ev_aload_n (pc1 := 74) rfl rfl (TBof tbs_7 _ rfl) rfl ?_
      refine ev_iload_n (pc1 := 75) rfl (TBof tbs_7 _ rfl) rfl ?_
      refine ev_callvV (pc1 := 78) (as := [.ref 1, .int v2]) (r := []) (TBof tbs_7 _ rfl) rfl (lnkof mo_7 ln_1_79) rfl na_10 ltc_29 (sh_29.trans (by rw [mo_10])) (Nat.le_of_ble_eq_true rfl) H (fun M4 h4 D4 H => ?_)
      refine ev_iinc (pc1 := 81) (n := 2) (c := 1) (x := v2) (cc := 1) (L1 := [(2, .int (v2 + 1)), (0, .ref 29), (1, .ref 1)]) rfl (by rw [ml_7]; decide) (by decide) rfl (TBof tbs_7 _ rfl) rfl ?_
      refine ev_goto (pc1 := 55) (TBof tbs_7 _ rfl) (by decide) ?_
      exact ev_le [1, 2, 0] rfl rfl H
set_option maxRecDepth 100000 in
theorem R_X1_addWayInto_0 {d : Nat} {v2 : Int32} {M : Im} {h : Hm} {D : Dm} {Q : Im → Hm → Dm → Prop} (H : EvV d nX1_addWayInto 5 [(0, .ref 29), (1, .ref 1), (2, .int v2), (3, .int v2), (4, .int 0)] [] M h D Q) : EvV d nX1_addWayInto 0 [(0, .ref 29), (1, .ref 1), (2, .int v2)] [] M h D Q := by
  refine ev_iload_n (pc1 := 1) rfl (TBof tbs_8 _ rfl) rfl ?_
  refine ev_istore_n (pc1 := 2) (L1 := [(3, .int v2), (0, .ref 29), (1, .ref 1), (2, .int v2)]) (by rw [ml_8]; decide) rfl (TBof tbs_8 _ rfl) rfl ?_
  refine ev_iconst (pc1 := 3) (x := 0) (by decide) (TBof tbs_8 _ rfl) rfl ?_
  refine ev_istore (pc1 := 5) (L1 := [(4, .int 0), (3, .int v2), (0, .ref 29), (1, .ref 1), (2, .int v2)]) (by rw [ml_8]; decide) rfl (TBof tbs_8 _ rfl) rfl ?_
  exact ev_le [2, 3, 4, 1, 0] rfl rfl H
set_option maxRecDepth 100000 in
theorem R_X1_addWayInto_5 {d : Nat} {v2 v3 v4 : Int32} {M : Im} {h : Hm} {D : Dm} {Q : Im → Hm → Dm → Prop} (H : ((16 < v4) → (Q M h D)) ∧ (¬ (16 < v4) → (CI d nX2_isThere [.ref 1, .int v3] M h D (fun x2 M2 h2 D2 => ((x2 = 0) → (Q M2 h2 D2)) ∧ (¬ (x2 = 0) → (CV d nX1_addOpening [.ref 29, .ref 1, .int v3] M2 h2 D2 (fun M4 h4 D4 => vp_in v3 16 ∧ (EvV d nX1_addWayInto 5 [(0, .ref 29), (1, .ref 1), (2, .int v2), (3, .int (M4 2 (v3.toNatClampNeg))), (4, .int (v4 + 1))] [] M4 h4 D4 Q)))))))) : EvV d nX1_addWayInto 5 [(0, .ref 29), (1, .ref 1), (2, .int v2), (3, .int v3), (4, .int v4)] [] M h D Q := by
  refine ev_iload (pc1 := 7) rfl (TBof tbs_8 _ rfl) rfl ?_
  refine ev_bipush (pc1 := 9) (x := 16) (by decide) (TBof tbs_8 _ rfl) rfl ?_
  refine ev_icmp (pc1 := 12) (t := 39) (TBof tbs_8 _ rfl) (by decide) rfl (fun c1 => ?_) (fun c1 => ?_)
  · replace H := H.1 c1
    exact ev_return (TBof tbs_8 _ rfl) rt_8 ⟨rfl, H⟩
  · replace H := H.2 c1
    refine ev_aload_n (pc1 := 13) rfl rfl (TBof tbs_8 _ rfl) rfl ?_
    refine ev_iload_n (pc1 := 14) rfl (TBof tbs_8 _ rfl) rfl ?_
    refine ev_callvI (pc1 := 17) (as := [.int v3]) (r := []) (TBof tbs_8 _ rfl) rfl (lnkof mo_8 ln_1_82) rfl na_18 ltc_1 (sh_1.trans (by rw [mo_18])) (Nat.le_of_ble_eq_true rfl) H (fun x2 M2 h2 D2 H => ?_)
    refine ev_if (pc1 := 20) (t := 39) (TBof tbs_8 _ rfl) (by decide) rfl (fun c3 => ?_) (fun c3 => ?_)
    · replace H := H.1 c3
      exact ev_return (TBof tbs_8 _ rfl) rt_8 ⟨rfl, H⟩
    · replace H := H.2 c3
      refine ev_aload_n (pc1 := 21) rfl rfl (TBof tbs_8 _ rfl) rfl ?_
      refine ev_aload_n (pc1 := 22) rfl rfl (TBof tbs_8 _ rfl) rfl ?_
      refine ev_iload_n (pc1 := 23) rfl (TBof tbs_8 _ rfl) rfl ?_
      refine ev_callvV (pc1 := 26) (as := [.ref 1, .int v3]) (r := []) (TBof tbs_8 _ rfl) rfl (lnkof mo_8 ln_1_85) rfl na_11 ltc_29 (sh_29.trans (by rw [mo_11])) (Nat.le_of_ble_eq_true rfl) H (fun M4 h4 D4 H => ?_)
      refine ev_aload_n (pc1 := 27) rfl rfl (TBof tbs_8 _ rfl) rfl ?_
      refine ev_getP (pc1 := 30) (ci := 2) (k := 7) (a := 2) (TBof tbs_8 _ rfl) rfl (fldof mo_8 fl_1_88) ltc_1 sh_1 nk_2_7 fp_2_7 (by decide) pf_1_7 ?_
      refine ev_iload_n (pc1 := 31) rfl (TBof tbs_8 _ rfl) rfl ?_
      refine ev_iaload (pc1 := 32) (n := 16) (TBof tbs_8 _ rfl) rfl ltc_2 sh_2 H.1 ?_
      replace H := H.2
      refine ev_istore_n (pc1 := 33) (L1 := [(3, .int (M4 2 (v3.toNatClampNeg))), (0, .ref 29), (1, .ref 1), (2, .int v2), (4, .int v4)]) (by rw [ml_8]; decide) rfl (TBof tbs_8 _ rfl) rfl ?_
      refine ev_iinc (pc1 := 36) (n := 4) (c := 1) (x := v4) (cc := 1) (L1 := [(4, .int (v4 + 1)), (3, .int (M4 2 (v3.toNatClampNeg))), (0, .ref 29), (1, .ref 1), (2, .int v2)]) rfl (by rw [ml_8]; decide) (by decide) rfl (TBof tbs_8 _ rfl) rfl ?_
      refine ev_goto (pc1 := 5) (TBof tbs_8 _ rfl) (by decide) ?_
      exact ev_le [2, 3, 4, 1, 0] rfl rfl H
set_option maxRecDepth 100000 in
theorem R_X1_addNeedsOfOpening_0 {d : Nat} {v2 : Int32} {M : Im} {h : Hm} {D : Dm} {Q : Im → Hm → Dm → Prop} (H : CV d nX1_addWayInto [.ref 29, .ref 1, .int v2] M h D (fun M1 h1 D1 => vp_in v2 16 ∧ (((¬ ((M1 3 (v2.toNatClampNeg)) = 1)) → (EvV d nX1_addNeedsOfOpening 27 [(0, .ref 29), (1, .ref 1), (2, .int v2)] [] M1 h1 D1 Q)) ∧ (¬ (¬ ((M1 3 (v2.toNatClampNeg)) = 1)) → (vp_in v2 16 ∧ (CV d nX1_addTaking [.ref 29, .ref 1, .int (M1 4 (v2.toNatClampNeg))] M1 h1 D1 (fun M3 h3 D3 => EvV d nX1_addNeedsOfOpening 27 [(0, .ref 29), (1, .ref 1), (2, .int v2)] [] M3 h3 D3 Q))))))) : EvV d nX1_addNeedsOfOpening 0 [(0, .ref 29), (1, .ref 1), (2, .int v2)] [] M h D Q := by
  refine ev_aload_n (pc1 := 1) rfl rfl (TBof tbs_9 _ rfl) rfl ?_
  refine ev_aload_n (pc1 := 2) rfl rfl (TBof tbs_9 _ rfl) rfl ?_
  refine ev_iload_n (pc1 := 3) rfl (TBof tbs_9 _ rfl) rfl ?_
  refine ev_callvV (pc1 := 6) (as := [.ref 1, .int v2]) (r := []) (TBof tbs_9 _ rfl) rfl (lnkof mo_9 ln_1_22) rfl na_8 ltc_29 (sh_29.trans (by rw [mo_8])) (Nat.le_of_ble_eq_true rfl) H (fun M1 h1 D1 H => ?_)
  refine ev_aload_n (pc1 := 7) rfl rfl (TBof tbs_9 _ rfl) rfl ?_
  refine ev_getP (pc1 := 10) (ci := 2) (k := 8) (a := 3) (TBof tbs_9 _ rfl) rfl (fldof mo_9 fl_1_91) ltc_1 sh_1 nk_2_8 fp_2_8 (by decide) pf_1_8 ?_
  refine ev_iload_n (pc1 := 11) rfl (TBof tbs_9 _ rfl) rfl ?_
  refine ev_iaload (pc1 := 12) (n := 16) (TBof tbs_9 _ rfl) rfl ltc_3 sh_3 H.1 ?_
  replace H := H.2
  refine ev_iconst (pc1 := 13) (x := 1) (by decide) (TBof tbs_9 _ rfl) rfl ?_
  refine ev_icmp (pc1 := 16) (t := 27) (TBof tbs_9 _ rfl) (by decide) rfl (fun c2 => ?_) (fun c2 => ?_)
  · replace H := H.1 c2
    exact ev_le [0, 1, 2] rfl rfl H
  · replace H := H.2 c2
    refine ev_aload_n (pc1 := 17) rfl rfl (TBof tbs_9 _ rfl) rfl ?_
    refine ev_aload_n (pc1 := 18) rfl rfl (TBof tbs_9 _ rfl) rfl ?_
    refine ev_aload_n (pc1 := 19) rfl rfl (TBof tbs_9 _ rfl) rfl ?_
    refine ev_getP (pc1 := 22) (ci := 2) (k := 9) (a := 4) (TBof tbs_9 _ rfl) rfl (fldof mo_9 fl_1_94) ltc_1 sh_1 nk_2_9 fp_2_9 (by decide) pf_1_9 ?_
    refine ev_iload_n (pc1 := 23) rfl (TBof tbs_9 _ rfl) rfl ?_
    refine ev_iaload (pc1 := 24) (n := 16) (TBof tbs_9 _ rfl) rfl ltc_4 sh_4 H.1 ?_
    replace H := H.2
    refine ev_callvV (pc1 := 27) (as := [.ref 1, .int (M1 4 (v2.toNatClampNeg))]) (r := []) (TBof tbs_9 _ rfl) rfl (lnkof mo_9 ln_1_76) rfl na_12 ltc_29 (sh_29.trans (by rw [mo_12])) (Nat.le_of_ble_eq_true rfl) H (fun M3 h3 D3 H => ?_)
    exact ev_le [0, 1, 2] rfl rfl H
set_option maxRecDepth 100000 in
theorem R_X1_addNeedsOfOpening_27 {d : Nat} {v2 : Int32} {M : Im} {h : Hm} {D : Dm} {Q : Im → Hm → Dm → Prop} (H : vp_in v2 16 ∧ (((¬ ((M 3 (v2.toNatClampNeg)) = 2)) → (Q M h D)) ∧ (¬ (¬ ((M 3 (v2.toNatClampNeg)) = 2)) → (vp_in v2 16 ∧ (CV d nX1_addOpening [.ref 29, .ref 1, .int (M 4 (v2.toNatClampNeg))] M h D (fun M2 h2 D2 => Q M2 h2 D2)))))) : EvV d nX1_addNeedsOfOpening 27 [(0, .ref 29), (1, .ref 1), (2, .int v2)] [] M h D Q := by
  refine ev_aload_n (pc1 := 28) rfl rfl (TBof tbs_9 _ rfl) rfl ?_
  refine ev_getP (pc1 := 31) (ci := 2) (k := 8) (a := 3) (TBof tbs_9 _ rfl) rfl (fldof mo_9 fl_1_91) ltc_1 sh_1 nk_2_8 fp_2_8 (by decide) pf_1_8 ?_
  refine ev_iload_n (pc1 := 32) rfl (TBof tbs_9 _ rfl) rfl ?_
  refine ev_iaload (pc1 := 33) (n := 16) (TBof tbs_9 _ rfl) rfl ltc_3 sh_3 H.1 ?_
  replace H := H.2
  refine ev_iconst (pc1 := 34) (x := 2) (by decide) (TBof tbs_9 _ rfl) rfl ?_
  refine ev_icmp (pc1 := 37) (t := 48) (TBof tbs_9 _ rfl) (by decide) rfl (fun c1 => ?_) (fun c1 => ?_)
  · replace H := H.1 c1
    exact ev_return (TBof tbs_9 _ rfl) rt_9 ⟨rfl, H⟩
  · replace H := H.2 c1
    refine ev_aload_n (pc1 := 38) rfl rfl (TBof tbs_9 _ rfl) rfl ?_
    refine ev_aload_n (pc1 := 39) rfl rfl (TBof tbs_9 _ rfl) rfl ?_
    refine ev_aload_n (pc1 := 40) rfl rfl (TBof tbs_9 _ rfl) rfl ?_
    refine ev_getP (pc1 := 43) (ci := 2) (k := 9) (a := 4) (TBof tbs_9 _ rfl) rfl (fldof mo_9 fl_1_94) ltc_1 sh_1 nk_2_9 fp_2_9 (by decide) pf_1_9 ?_
    refine ev_iload_n (pc1 := 44) rfl (TBof tbs_9 _ rfl) rfl ?_
    refine ev_iaload (pc1 := 45) (n := 16) (TBof tbs_9 _ rfl) rfl ltc_4 sh_4 H.1 ?_
    replace H := H.2
    refine ev_callvV (pc1 := 48) (as := [.ref 1, .int (M 4 (v2.toNatClampNeg))]) (r := []) (TBof tbs_9 _ rfl) rfl (lnkof mo_9 ln_1_85) rfl na_11 ltc_29 (sh_29.trans (by rw [mo_11])) (Nat.le_of_ble_eq_true rfl) H (fun M2 h2 D2 H => ?_)
    exact ev_return (TBof tbs_9 _ rfl) rt_9 ⟨rfl, H⟩
set_option maxRecDepth 100000 in
theorem R_X1_addNeedsOfTaking_0 {d : Nat} {v2 : Int32} {M : Im} {h : Hm} {D : Dm} {Q : Im → Hm → Dm → Prop} (H : vp_in v2 12 ∧ (CI d nX2_isThere [.ref 1, .int (M 8 (v2.toNatClampNeg))] M h D (fun x1 M1 h1 D1 => ((x1 = 0) → (Q M1 h1 D1)) ∧ (¬ (x1 = 0) → (CV d nX1_addWayInto [.ref 29, .ref 1, .int (M 8 (v2.toNatClampNeg))] M1 h1 D1 (fun M3 h3 D3 => vp_in (M 8 (v2.toNatClampNeg)) 16 ∧ (vp_in v2 12 ∧ (1 ≤ d ∧ (vp_in (M 8 (v2.toNatClampNeg)) 16 ∧ (∀ M4 : Im, M4 = up2 M3 30 ((M 8 (v2.toNatClampNeg)).toNatClampNeg) (if (M3 30 ((M 8 (v2.toNatClampNeg)).toNatClampNeg)) < (M3 9 (v2.toNatClampNeg)) then (M3 9 (v2.toNatClampNeg)) else (M3 30 ((M 8 (v2.toNatClampNeg)).toNatClampNeg))) → (Q M4 h3 D3))))))))))) : EvV d nX1_addNeedsOfTaking 0 [(0, .ref 29), (1, .ref 1), (2, .int v2)] [] M h D Q := by
  refine ev_aload_n (pc1 := 1) rfl rfl (TBof tbs_10 _ rfl) rfl ?_
  refine ev_getP (pc1 := 4) (ci := 2) (k := 13) (a := 8) (TBof tbs_10 _ rfl) rfl (fldof mo_10 fl_1_97) ltc_1 sh_1 nk_2_13 fp_2_13 (by decide) pf_1_13 ?_
  refine ev_iload_n (pc1 := 5) rfl (TBof tbs_10 _ rfl) rfl ?_
  refine ev_iaload (pc1 := 6) (n := 12) (TBof tbs_10 _ rfl) rfl ltc_8 sh_8 H.1 ?_
  replace H := H.2
  refine ev_istore_n (pc1 := 7) (L1 := [(3, .int (M 8 (v2.toNatClampNeg))), (0, .ref 29), (1, .ref 1), (2, .int v2)]) (by rw [ml_10]; decide) rfl (TBof tbs_10 _ rfl) rfl ?_
  refine ev_aload_n (pc1 := 8) rfl rfl (TBof tbs_10 _ rfl) rfl ?_
  refine ev_iload_n (pc1 := 9) rfl (TBof tbs_10 _ rfl) rfl ?_
  refine ev_callvI (pc1 := 12) (as := [.int (M 8 (v2.toNatClampNeg))]) (r := []) (TBof tbs_10 _ rfl) rfl (lnkof mo_10 ln_1_82) rfl na_18 ltc_1 (sh_1.trans (by rw [mo_18])) (Nat.le_of_ble_eq_true rfl) H (fun x1 M1 h1 D1 H => ?_)
  refine ev_if (pc1 := 15) (t := 42) (TBof tbs_10 _ rfl) (by decide) rfl (fun c2 => ?_) (fun c2 => ?_)
  · replace H := H.1 c2
    exact ev_return (TBof tbs_10 _ rfl) rt_10 ⟨rfl, H⟩
  · replace H := H.2 c2
    refine ev_aload_n (pc1 := 16) rfl rfl (TBof tbs_10 _ rfl) rfl ?_
    refine ev_aload_n (pc1 := 17) rfl rfl (TBof tbs_10 _ rfl) rfl ?_
    refine ev_iload_n (pc1 := 18) rfl (TBof tbs_10 _ rfl) rfl ?_
    refine ev_callvV (pc1 := 21) (as := [.ref 1, .int (M 8 (v2.toNatClampNeg))]) (r := []) (TBof tbs_10 _ rfl) rfl (lnkof mo_10 ln_1_22) rfl na_8 ltc_29 (sh_29.trans (by rw [mo_8])) (Nat.le_of_ble_eq_true rfl) H (fun M3 h3 D3 H => ?_)
    refine ev_aload_n (pc1 := 22) rfl rfl (TBof tbs_10 _ rfl) rfl ?_
    refine ev_getP (pc1 := 25) (ci := 1) (k := 2) (a := 30) (TBof tbs_10 _ rfl) rfl (fldof mo_10 fl_1_9) ltc_29 sh_29 nk_1_2 fp_1_2 (by decide) pf_29_2 ?_
    refine ev_iload_n (pc1 := 26) rfl (TBof tbs_10 _ rfl) rfl ?_
    refine ev_aload_n (pc1 := 27) rfl rfl (TBof tbs_10 _ rfl) rfl ?_
    refine ev_getP (pc1 := 30) (ci := 1) (k := 2) (a := 30) (TBof tbs_10 _ rfl) rfl (fldof mo_10 fl_1_9) ltc_29 sh_29 nk_1_2 fp_1_2 (by decide) pf_29_2 ?_
    refine ev_iload_n (pc1 := 31) rfl (TBof tbs_10 _ rfl) rfl ?_
    refine ev_iaload (pc1 := 32) (n := 16) (TBof tbs_10 _ rfl) rfl ltc_30 sh_30 H.1 ?_
    replace H := H.2
    refine ev_aload_n (pc1 := 33) rfl rfl (TBof tbs_10 _ rfl) rfl ?_
    refine ev_getP (pc1 := 36) (ci := 2) (k := 14) (a := 9) (TBof tbs_10 _ rfl) rfl (fldof mo_10 fl_1_100) ltc_1 sh_1 nk_2_14 fp_2_14 (by decide) pf_1_14 ?_
    refine ev_iload_n (pc1 := 37) rfl (TBof tbs_10 _ rfl) rfl ?_
    refine ev_iaload (pc1 := 38) (n := 12) (TBof tbs_10 _ rfl) rfl ltc_9 sh_9 H.1 ?_
    replace H := H.2
    refine ev_max (pc1 := 41) (TBof tbs_10 _ rfl) rfl (lnkof mo_10 ln_1_48) (Nat.le_of_ble_eq_true rfl) H.1 ?_
    replace H := H.2
    refine ev_iastore (pc1 := 42) (n := 16) (TBof tbs_10 _ rfl) rfl ltc_30 sh_30 H.1 ?_
    replace H := H.2
    generalize e4 : up2 M3 30 ((M 8 (v2.toNatClampNeg)).toNatClampNeg) (if (M3 30 ((M 8 (v2.toNatClampNeg)).toNatClampNeg)) < (M3 9 (v2.toNatClampNeg)) then (M3 9 (v2.toNatClampNeg)) else (M3 30 ((M 8 (v2.toNatClampNeg)).toNatClampNeg))) = M4
    replace H := H M4 e4.symm
    exact ev_return (TBof tbs_10 _ rfl) rt_10 ⟨rfl, H⟩
set_option maxRecDepth 100000 in
theorem R_X1_addOpening_0 {d : Nat} {v2 : Int32} {M : Im} {h : Hm} {D : Dm} {Q : Im → Hm → Dm → Prop} (H : CI d nX2_isOpen [.ref 1, .int v2] M h D (fun x1 M1 h1 D1 => ((¬ (x1 = 0)) → (Q M1 h1 D1)) ∧ (¬ (¬ (x1 = 0)) → (CI d nX3_bit [.int v2] M1 h1 D1 (fun x3 M3 h3 D3 => Q (up2 M3 29 0 ((M1 29 0) ||| x3)) h3 D3))))) : EvV d nX1_addOpening 0 [(0, .ref 29), (1, .ref 1), (2, .int v2)] [] M h D Q := by
  refine ev_aload_n (pc1 := 1) rfl rfl (TBof tbs_11 _ rfl) rfl ?_
  refine ev_iload_n (pc1 := 2) rfl (TBof tbs_11 _ rfl) rfl ?_
  refine ev_callvI (pc1 := 5) (as := [.int v2]) (r := []) (TBof tbs_11 _ rfl) rfl (lnkof mo_11 ln_1_103) rfl na_19 ltc_1 (sh_1.trans (by rw [mo_19])) (Nat.le_of_ble_eq_true rfl) H (fun x1 M1 h1 D1 H => ?_)
  refine ev_if (pc1 := 8) (t := 21) (TBof tbs_11 _ rfl) (by decide) rfl (fun c2 => ?_) (fun c2 => ?_)
  · replace H := H.1 c2
    exact ev_return (TBof tbs_11 _ rfl) rt_11 ⟨rfl, H⟩
  · replace H := H.2 c2
    refine ev_aload_n (pc1 := 9) rfl rfl (TBof tbs_11 _ rfl) rfl ?_
    refine ev_dup (pc1 := 10) rfl (TBof tbs_11 _ rfl) rfl ?_
    refine ev_getI (pc1 := 13) (ci := 1) (k := 0) (TBof tbs_11 _ rfl) rfl (fldof mo_11 fl_1_15) ltc_29 sh_29 nk_1_0 fi_1_0 ?_
    refine ev_iload_n (pc1 := 14) rfl (TBof tbs_11 _ rfl) rfl ?_
    refine ev_callsI (pc1 := 17) (as := [.int v2]) (r := [.int (M1 29 0), .ref 29]) (TBof tbs_11 _ rfl) rfl (lnkof mo_11 ln_1_106) (Or.inr rfl) rfl na_60 (Nat.le_of_ble_eq_true rfl) H (fun x3 M3 h3 D3 H => ?_)
    refine ev_ior (pc1 := 18) (TBof tbs_11 _ rfl) rfl ?_
    refine ev_putI (pc1 := 21) (ci := 1) (k := 0) (TBof tbs_11 _ rfl) rfl (fldof mo_11 fl_1_15) ltc_29 sh_29 nk_1_0 rfl rfl ?_
    exact ev_return (TBof tbs_11 _ rfl) rt_11 ⟨rfl, H⟩
set_option maxRecDepth 100000 in
theorem R_X1_addTaking_0 {d : Nat} {v2 : Int32} {M : Im} {h : Hm} {D : Dm} {Q : Im → Hm → Dm → Prop} (H : CI d nX2_isInHand [.ref 1, .int v2] M h D (fun x1 M1 h1 D1 => ((¬ (x1 = 0)) → (Q M1 h1 D1)) ∧ (¬ (¬ (x1 = 0)) → (CI d nX3_bit [.int v2] M1 h1 D1 (fun x3 M3 h3 D3 => Q (up2 M3 29 1 ((M1 29 1) ||| x3)) h3 D3))))) : EvV d nX1_addTaking 0 [(0, .ref 29), (1, .ref 1), (2, .int v2)] [] M h D Q := by
  refine ev_aload_n (pc1 := 1) rfl rfl (TBof tbs_12 _ rfl) rfl ?_
  refine ev_iload_n (pc1 := 2) rfl (TBof tbs_12 _ rfl) rfl ?_
  refine ev_callvI (pc1 := 5) (as := [.int v2]) (r := []) (TBof tbs_12 _ rfl) rfl (lnkof mo_12 ln_1_109) rfl na_20 ltc_1 (sh_1.trans (by rw [mo_20])) (Nat.le_of_ble_eq_true rfl) H (fun x1 M1 h1 D1 H => ?_)
  refine ev_if (pc1 := 8) (t := 21) (TBof tbs_12 _ rfl) (by decide) rfl (fun c2 => ?_) (fun c2 => ?_)
  · replace H := H.1 c2
    exact ev_return (TBof tbs_12 _ rfl) rt_12 ⟨rfl, H⟩
  · replace H := H.2 c2
    refine ev_aload_n (pc1 := 9) rfl rfl (TBof tbs_12 _ rfl) rfl ?_
    refine ev_dup (pc1 := 10) rfl (TBof tbs_12 _ rfl) rfl ?_
    refine ev_getI (pc1 := 13) (ci := 1) (k := 1) (TBof tbs_12 _ rfl) rfl (fldof mo_12 fl_1_19) ltc_29 sh_29 nk_1_1 fi_1_1 ?_
    refine ev_iload_n (pc1 := 14) rfl (TBof tbs_12 _ rfl) rfl ?_
    refine ev_callsI (pc1 := 17) (as := [.int v2]) (r := [.int (M1 29 1), .ref 29]) (TBof tbs_12 _ rfl) rfl (lnkof mo_12 ln_1_106) (Or.inr rfl) rfl na_60 (Nat.le_of_ble_eq_true rfl) H (fun x3 M3 h3 D3 H => ?_)
    refine ev_ior (pc1 := 18) (TBof tbs_12 _ rfl) rfl ?_
    refine ev_putI (pc1 := 21) (ci := 1) (k := 1) (TBof tbs_12 _ rfl) rfl (fldof mo_12 fl_1_19) ltc_29 sh_29 nk_1_1 rfl rfl ?_
    exact ev_return (TBof tbs_12 _ rfl) rt_12 ⟨rfl, H⟩
end
section
/-! what each block of code asks: class 2 -/
set_option maxRecDepth 100000 in
theorem R_X2_copyFrom_0 {d : Nat} {S : Nat} {T : Nat} {M : Im} {h : Hm} {D : Dm} {Q : Im → Hm → Dm → Prop} (hS : St S) (hT : St T) (H : (((up2 M S 0 (M T 0)) T 1) = 0 ∨ ((up2 M S 0 (M T 0)) T 1) = 1) ∧ (∀ M1 : Im, M1 = up2 (up2 (up2 M S 0 (M T 0)) S 1 ((up2 M S 0 (M T 0)) T 1)) S 2 ((up2 (up2 M S 0 (M T 0)) S 1 ((up2 M S 0 (M T 0)) T 1)) T 2) → (∀ M2 : Im, M2 = up2 (up2 (up2 M1 S 3 (M1 T 3)) S 4 ((up2 M1 S 3 (M1 T 3)) T 4)) S 5 ((up2 (up2 M1 S 3 (M1 T 3)) S 4 ((up2 M1 S 3 (M1 T 3)) T 4)) T 5) → (1 ≤ d ∧ (1 ≤ d ∧ (1 ≤ d ∧ (∀ M3 : Im, M3 = cp2 (cp2 (cp2 (up2 M2 S 6 (M2 T 6)) (T + 1) 0 (S + 1) 0 16) (T + 2) 0 (S + 2) 0 16) (T + 3) 0 (S + 3) 0 16 → (1 ≤ d ∧ (1 ≤ d ∧ (1 ≤ d ∧ (1 ≤ d ∧ (∀ M4 : Im, M4 = cp2 (cp2 (cp2 (cp2 M3 (T + 4) 0 (S + 4) 0 16) (T + 5) 0 (S + 5) 0 16) (T + 6) 0 (S + 6) 0 16) (T + 7) 0 (S + 7) 0 12 → (1 ≤ d ∧ (Q (cp2 M4 (T + 8) 0 (S + 8) 0 12) h D)))))))))))))) : EvV d nX2_copyFrom 0 [(0, .ref S), (1, .ref T)] [] M h D Q := by
  refine ev_aload_n (pc1 := 1) rfl rfl (TBof tbs_14 _ rfl) rfl ?_
  refine ev_aload_n (pc1 := 2) rfl rfl (TBof tbs_14 _ rfl) rfl ?_
  refine ev_getI (pc1 := 5) (ci := 2) (k := 0) (TBof tbs_14 _ rfl) rfl (fldof mo_14 fl_2_36) hT.lt0 hT.sh nk_2_0 fi_2_0 ?_
  refine ev_putI (pc1 := 8) (ci := 2) (k := 0) (TBof tbs_14 _ rfl) rfl (fldof mo_14 fl_2_36) hS.lt0 hS.sh nk_2_0 rfl rfl ?_
  refine ev_aload_n (pc1 := 9) rfl rfl (TBof tbs_14 _ rfl) rfl ?_
  refine ev_aload_n (pc1 := 10) rfl rfl (TBof tbs_14 _ rfl) rfl ?_
  refine ev_getI (pc1 := 13) (ci := 2) (k := 1) (TBof tbs_14 _ rfl) rfl (fldof mo_14 fl_2_40) hT.lt0 hT.sh nk_2_1 fi_2_1 ?_
  refine ev_putZ (pc1 := 16) (ci := 2) (k := 1) (TBof tbs_14 _ rfl) rfl (fldof mo_14 fl_2_40) hS.lt0 hS.sh nk_2_1 rfl rfl H.1 ?_
  replace H := H.2
  refine ev_aload_n (pc1 := 17) rfl rfl (TBof tbs_14 _ rfl) rfl ?_
  refine ev_aload_n (pc1 := 18) rfl rfl (TBof tbs_14 _ rfl) rfl ?_
  refine ev_getI (pc1 := 21) (ci := 2) (k := 2) (TBof tbs_14 _ rfl) rfl (fldof mo_14 fl_2_44) hT.lt0 hT.sh nk_2_2 fi_2_2 ?_
  refine ev_putI (pc1 := 24) (ci := 2) (k := 2) (TBof tbs_14 _ rfl) rfl (fldof mo_14 fl_2_44) hS.lt0 hS.sh nk_2_2 rfl rfl ?_
  generalize e1 : up2 (up2 (up2 M S 0 (M T 0)) S 1 ((up2 M S 0 (M T 0)) T 1)) S 2 ((up2 (up2 M S 0 (M T 0)) S 1 ((up2 M S 0 (M T 0)) T 1)) T 2) = M1
  replace H := H M1 e1.symm
  refine ev_aload_n (pc1 := 25) rfl rfl (TBof tbs_14 _ rfl) rfl ?_
  refine ev_aload_n (pc1 := 26) rfl rfl (TBof tbs_14 _ rfl) rfl ?_
  refine ev_getI (pc1 := 29) (ci := 2) (k := 3) (TBof tbs_14 _ rfl) rfl (fldof mo_14 fl_2_47) hT.lt0 hT.sh nk_2_3 fi_2_3 ?_
  refine ev_putI (pc1 := 32) (ci := 2) (k := 3) (TBof tbs_14 _ rfl) rfl (fldof mo_14 fl_2_47) hS.lt0 hS.sh nk_2_3 rfl rfl ?_
  refine ev_aload_n (pc1 := 33) rfl rfl (TBof tbs_14 _ rfl) rfl ?_
  refine ev_aload_n (pc1 := 34) rfl rfl (TBof tbs_14 _ rfl) rfl ?_
  refine ev_getI (pc1 := 37) (ci := 2) (k := 4) (TBof tbs_14 _ rfl) rfl (fldof mo_14 fl_2_50) hT.lt0 hT.sh nk_2_4 fi_2_4 ?_
  refine ev_putI (pc1 := 40) (ci := 2) (k := 4) (TBof tbs_14 _ rfl) rfl (fldof mo_14 fl_2_50) hS.lt0 hS.sh nk_2_4 rfl rfl ?_
  refine ev_aload_n (pc1 := 41) rfl rfl (TBof tbs_14 _ rfl) rfl ?_
  refine ev_aload_n (pc1 := 42) rfl rfl (TBof tbs_14 _ rfl) rfl ?_
  refine ev_getI (pc1 := 45) (ci := 2) (k := 5) (TBof tbs_14 _ rfl) rfl (fldof mo_14 fl_2_53) hT.lt0 hT.sh nk_2_5 fi_2_5 ?_
  refine ev_putI (pc1 := 48) (ci := 2) (k := 5) (TBof tbs_14 _ rfl) rfl (fldof mo_14 fl_2_53) hS.lt0 hS.sh nk_2_5 rfl rfl ?_
  generalize e2 : up2 (up2 (up2 M1 S 3 (M1 T 3)) S 4 ((up2 M1 S 3 (M1 T 3)) T 4)) S 5 ((up2 (up2 M1 S 3 (M1 T 3)) S 4 ((up2 M1 S 3 (M1 T 3)) T 4)) T 5) = M2
  replace H := H M2 e2.symm
  refine ev_aload_n (pc1 := 49) rfl rfl (TBof tbs_14 _ rfl) rfl ?_
  refine ev_aload_n (pc1 := 50) rfl rfl (TBof tbs_14 _ rfl) rfl ?_
  refine ev_getI (pc1 := 53) (ci := 2) (k := 6) (TBof tbs_14 _ rfl) rfl (fldof mo_14 fl_2_56) hT.lt0 hT.sh nk_2_6 fi_2_6 ?_
  refine ev_putI (pc1 := 56) (ci := 2) (k := 6) (TBof tbs_14 _ rfl) rfl (fldof mo_14 fl_2_56) hS.lt0 hS.sh nk_2_6 rfl rfl ?_
  refine ev_aload_n (pc1 := 57) rfl rfl (TBof tbs_14 _ rfl) rfl ?_
  refine ev_getP (pc1 := 60) (ci := 2) (k := 7) (a := (T + 1)) (TBof tbs_14 _ rfl) rfl (fldof mo_14 fl_2_9) hT.lt0 hT.sh nk_2_7 fp_2_7 hT.n28 hT.p7 ?_
  refine ev_iconst (pc1 := 61) (x := 0) (by decide) (TBof tbs_14 _ rfl) rfl ?_
  refine ev_aload_n (pc1 := 62) rfl rfl (TBof tbs_14 _ rfl) rfl ?_
  refine ev_getP (pc1 := 65) (ci := 2) (k := 7) (a := (S + 1)) (TBof tbs_14 _ rfl) rfl (fldof mo_14 fl_2_9) hS.lt0 hS.sh nk_2_7 fp_2_7 hS.n28 hS.p7 ?_
  refine ev_iconst (pc1 := 66) (x := 0) (by decide) (TBof tbs_14 _ rfl) rfl ?_
  refine ev_bipush (pc1 := 68) (x := 16) (by decide) (TBof tbs_14 _ rfl) rfl ?_
  refine ev_copy (pc1 := 71) (n := 16) (n0 := 16) (n1 := 16) (TBof tbs_14 _ rfl) rfl (lnkof mo_14 ln_2_59) (Nat.le_of_ble_eq_true rfl) H.1 (hT.lt (j := 1) (by decide)) (hS.lt (j := 1) (by decide)) hT.a1 hS.a1 (by decide) (by decide) (by decide) (by decide) ?_
  replace H := H.2
  refine ev_aload_n (pc1 := 72) rfl rfl (TBof tbs_14 _ rfl) rfl ?_
  refine ev_getP (pc1 := 75) (ci := 2) (k := 8) (a := (T + 2)) (TBof tbs_14 _ rfl) rfl (fldof mo_14 fl_2_15) hT.lt0 hT.sh nk_2_8 fp_2_8 hT.n28 hT.p8 ?_
  refine ev_iconst (pc1 := 76) (x := 0) (by decide) (TBof tbs_14 _ rfl) rfl ?_
  refine ev_aload_n (pc1 := 77) rfl rfl (TBof tbs_14 _ rfl) rfl ?_
  refine ev_getP (pc1 := 80) (ci := 2) (k := 8) (a := (S + 2)) (TBof tbs_14 _ rfl) rfl (fldof mo_14 fl_2_15) hS.lt0 hS.sh nk_2_8 fp_2_8 hS.n28 hS.p8 ?_
  refine ev_iconst (pc1 := 81) (x := 0) (by decide) (TBof tbs_14 _ rfl) rfl ?_
  refine ev_bipush (pc1 := 83) (x := 16) (by decide) (TBof tbs_14 _ rfl) rfl ?_
  refine ev_copy (pc1 := 86) (n := 16) (n0 := 16) (n1 := 16) (TBof tbs_14 _ rfl) rfl (lnkof mo_14 ln_2_59) (Nat.le_of_ble_eq_true rfl) H.1 (hT.lt (j := 2) (by decide)) (hS.lt (j := 2) (by decide)) hT.a2 hS.a2 (by decide) (by decide) (by decide) (by decide) ?_
  replace H := H.2
  refine ev_aload_n (pc1 := 87) rfl rfl (TBof tbs_14 _ rfl) rfl ?_
  refine ev_getP (pc1 := 90) (ci := 2) (k := 9) (a := (T + 3)) (TBof tbs_14 _ rfl) rfl (fldof mo_14 fl_2_18) hT.lt0 hT.sh nk_2_9 fp_2_9 hT.n28 hT.p9 ?_
  refine ev_iconst (pc1 := 91) (x := 0) (by decide) (TBof tbs_14 _ rfl) rfl ?_
  refine ev_aload_n (pc1 := 92) rfl rfl (TBof tbs_14 _ rfl) rfl ?_
  refine ev_getP (pc1 := 95) (ci := 2) (k := 9) (a := (S + 3)) (TBof tbs_14 _ rfl) rfl (fldof mo_14 fl_2_18) hS.lt0 hS.sh nk_2_9 fp_2_9 hS.n28 hS.p9 ?_
  refine ev_iconst (pc1 := 96) (x := 0) (by decide) (TBof tbs_14 _ rfl) rfl ?_
  refine ev_bipush (pc1 := 98) (x := 16) (by decide) (TBof tbs_14 _ rfl) rfl ?_
  refine ev_copy (pc1 := 101) (n := 16) (n0 := 16) (n1 := 16) (TBof tbs_14 _ rfl) rfl (lnkof mo_14 ln_2_59) (Nat.le_of_ble_eq_true rfl) H.1 (hT.lt (j := 3) (by decide)) (hS.lt (j := 3) (by decide)) hT.a3 hS.a3 (by decide) (by decide) (by decide) (by decide) ?_
  replace H := H.2
  generalize e3 : cp2 (cp2 (cp2 (up2 M2 S 6 (M2 T 6)) (T + 1) 0 (S + 1) 0 16) (T + 2) 0 (S + 2) 0 16) (T + 3) 0 (S + 3) 0 16 = M3
  replace H := H M3 e3.symm
  refine ev_aload_n (pc1 := 102) rfl rfl (TBof tbs_14 _ rfl) rfl ?_
  refine ev_getP (pc1 := 105) (ci := 2) (k := 10) (a := (T + 4)) (TBof tbs_14 _ rfl) rfl (fldof mo_14 fl_2_21) hT.lt0 hT.sh nk_2_10 fp_2_10 hT.n28 hT.p10 ?_
  refine ev_iconst (pc1 := 106) (x := 0) (by decide) (TBof tbs_14 _ rfl) rfl ?_
  refine ev_aload_n (pc1 := 107) rfl rfl (TBof tbs_14 _ rfl) rfl ?_
  refine ev_getP (pc1 := 110) (ci := 2) (k := 10) (a := (S + 4)) (TBof tbs_14 _ rfl) rfl (fldof mo_14 fl_2_21) hS.lt0 hS.sh nk_2_10 fp_2_10 hS.n28 hS.p10 ?_
  refine ev_iconst (pc1 := 111) (x := 0) (by decide) (TBof tbs_14 _ rfl) rfl ?_
  refine ev_bipush (pc1 := 113) (x := 16) (by decide) (TBof tbs_14 _ rfl) rfl ?_
  refine ev_copy (pc1 := 116) (n := 16) (n0 := 16) (n1 := 16) (TBof tbs_14 _ rfl) rfl (lnkof mo_14 ln_2_59) (Nat.le_of_ble_eq_true rfl) H.1 (hT.lt (j := 4) (by decide)) (hS.lt (j := 4) (by decide)) hT.a4 hS.a4 (by decide) (by decide) (by decide) (by decide) ?_
  replace H := H.2
  refine ev_aload_n (pc1 := 117) rfl rfl (TBof tbs_14 _ rfl) rfl ?_
  refine ev_getP (pc1 := 120) (ci := 2) (k := 11) (a := (T + 5)) (TBof tbs_14 _ rfl) rfl (fldof mo_14 fl_2_24) hT.lt0 hT.sh nk_2_11 fp_2_11 hT.n28 hT.p11 ?_
  refine ev_iconst (pc1 := 121) (x := 0) (by decide) (TBof tbs_14 _ rfl) rfl ?_
  refine ev_aload_n (pc1 := 122) rfl rfl (TBof tbs_14 _ rfl) rfl ?_
  refine ev_getP (pc1 := 125) (ci := 2) (k := 11) (a := (S + 5)) (TBof tbs_14 _ rfl) rfl (fldof mo_14 fl_2_24) hS.lt0 hS.sh nk_2_11 fp_2_11 hS.n28 hS.p11 ?_
  refine ev_iconst (pc1 := 126) (x := 0) (by decide) (TBof tbs_14 _ rfl) rfl ?_
  refine ev_bipush (pc1 := 128) (x := 16) (by decide) (TBof tbs_14 _ rfl) rfl ?_
  refine ev_copy (pc1 := 131) (n := 16) (n0 := 16) (n1 := 16) (TBof tbs_14 _ rfl) rfl (lnkof mo_14 ln_2_59) (Nat.le_of_ble_eq_true rfl) H.1 (hT.lt (j := 5) (by decide)) (hS.lt (j := 5) (by decide)) hT.a5 hS.a5 (by decide) (by decide) (by decide) (by decide) ?_
  replace H := H.2
  refine ev_aload_n (pc1 := 132) rfl rfl (TBof tbs_14 _ rfl) rfl ?_
  refine ev_getP (pc1 := 135) (ci := 2) (k := 12) (a := (T + 6)) (TBof tbs_14 _ rfl) rfl (fldof mo_14 fl_2_27) hT.lt0 hT.sh nk_2_12 fp_2_12 hT.n28 hT.p12 ?_
  refine ev_iconst (pc1 := 136) (x := 0) (by decide) (TBof tbs_14 _ rfl) rfl ?_
  refine ev_aload_n (pc1 := 137) rfl rfl (TBof tbs_14 _ rfl) rfl ?_
  refine ev_getP (pc1 := 140) (ci := 2) (k := 12) (a := (S + 6)) (TBof tbs_14 _ rfl) rfl (fldof mo_14 fl_2_27) hS.lt0 hS.sh nk_2_12 fp_2_12 hS.n28 hS.p12 ?_
  refine ev_iconst (pc1 := 141) (x := 0) (by decide) (TBof tbs_14 _ rfl) rfl ?_
  refine ev_bipush (pc1 := 143) (x := 16) (by decide) (TBof tbs_14 _ rfl) rfl ?_
  refine ev_copy (pc1 := 146) (n := 16) (n0 := 16) (n1 := 16) (TBof tbs_14 _ rfl) rfl (lnkof mo_14 ln_2_59) (Nat.le_of_ble_eq_true rfl) H.1 (hT.lt (j := 6) (by decide)) (hS.lt (j := 6) (by decide)) hT.a6 hS.a6 (by decide) (by decide) (by decide) (by decide) ?_
  replace H := H.2
  refine ev_aload_n (pc1 := 147) rfl rfl (TBof tbs_14 _ rfl) rfl ?_
  refine ev_getP (pc1 := 150) (ci := 2) (k := 13) (a := (T + 7)) (TBof tbs_14 _ rfl) rfl (fldof mo_14 fl_2_30) hT.lt0 hT.sh nk_2_13 fp_2_13 hT.n28 hT.p13 ?_
  refine ev_iconst (pc1 := 151) (x := 0) (by decide) (TBof tbs_14 _ rfl) rfl ?_
  refine ev_aload_n (pc1 := 152) rfl rfl (TBof tbs_14 _ rfl) rfl ?_
  refine ev_getP (pc1 := 155) (ci := 2) (k := 13) (a := (S + 7)) (TBof tbs_14 _ rfl) rfl (fldof mo_14 fl_2_30) hS.lt0 hS.sh nk_2_13 fp_2_13 hS.n28 hS.p13 ?_
  refine ev_iconst (pc1 := 156) (x := 0) (by decide) (TBof tbs_14 _ rfl) rfl ?_
  refine ev_bipush (pc1 := 158) (x := 12) (by decide) (TBof tbs_14 _ rfl) rfl ?_
  refine ev_copy (pc1 := 161) (n := 12) (n0 := 12) (n1 := 12) (TBof tbs_14 _ rfl) rfl (lnkof mo_14 ln_2_59) (Nat.le_of_ble_eq_true rfl) H.1 (hT.lt (j := 7) (by decide)) (hS.lt (j := 7) (by decide)) hT.a7 hS.a7 (by decide) (by decide) (by decide) (by decide) ?_
  replace H := H.2
  generalize e4 : cp2 (cp2 (cp2 (cp2 M3 (T + 4) 0 (S + 4) 0 16) (T + 5) 0 (S + 5) 0 16) (T + 6) 0 (S + 6) 0 16) (T + 7) 0 (S + 7) 0 12 = M4
  replace H := H M4 e4.symm
  refine ev_aload_n (pc1 := 162) rfl rfl (TBof tbs_14 _ rfl) rfl ?_
  refine ev_getP (pc1 := 165) (ci := 2) (k := 14) (a := (T + 8)) (TBof tbs_14 _ rfl) rfl (fldof mo_14 fl_2_33) hT.lt0 hT.sh nk_2_14 fp_2_14 hT.n28 hT.p14 ?_
  refine ev_iconst (pc1 := 166) (x := 0) (by decide) (TBof tbs_14 _ rfl) rfl ?_
  refine ev_aload_n (pc1 := 167) rfl rfl (TBof tbs_14 _ rfl) rfl ?_
  refine ev_getP (pc1 := 170) (ci := 2) (k := 14) (a := (S + 8)) (TBof tbs_14 _ rfl) rfl (fldof mo_14 fl_2_33) hS.lt0 hS.sh nk_2_14 fp_2_14 hS.n28 hS.p14 ?_
  refine ev_iconst (pc1 := 171) (x := 0) (by decide) (TBof tbs_14 _ rfl) rfl ?_
  refine ev_bipush (pc1 := 173) (x := 12) (by decide) (TBof tbs_14 _ rfl) rfl ?_
  refine ev_copy (pc1 := 176) (n := 12) (n0 := 12) (n1 := 12) (TBof tbs_14 _ rfl) rfl (lnkof mo_14 ln_2_59) (Nat.le_of_ble_eq_true rfl) H.1 (hT.lt (j := 8) (by decide)) (hS.lt (j := 8) (by decide)) hT.a8 hS.a8 (by decide) (by decide) (by decide) (by decide) ?_
  replace H := H.2
  exact ev_return (TBof tbs_14 _ rfl) rt_14 ⟨rfl, H⟩
set_option maxRecDepth 100000 in
theorem R_X2_addDrawer_0 {d : Nat} {S : Nat} {v1 v2 v3 v4 v5 : Int32} {M : Im} {h : Hm} {D : Dm} {Q : Im → Hm → Dm → Prop} (hS : St S) (H : ((16 ≤ (M S 0)) → (Q M h D)) ∧ (¬ (16 ≤ (M S 0)) → (vp_in (M S 0) 16 ∧ (vp_in ((up2 M (S + 1) ((M S 0).toNatClampNeg) v1) S 0) 16 ∧ (∀ M2 : Im, M2 = up2 (up2 M (S + 1) ((M S 0).toNatClampNeg) v1) (S + 2) (((up2 M (S + 1) ((M S 0).toNatClampNeg) v1) S 0).toNatClampNeg) v2 → (((v2 = 1) → (EvV d nX2_addDrawer 53 [(0, .ref S), (1, .int v1), (2, .int v2), (3, .int v3), (4, .int v4), (5, .int v5)] [.int v3, .int (M2 S 0), .ref (S + 3)] M2 h D Q)) ∧ (¬ (v2 = 1) → (((¬ (v2 = 2)) → (EvV d nX2_addDrawer 53 [(0, .ref S), (1, .int v1), (2, .int v2), (3, .int v3), (4, .int v4), (5, .int v5)] [.int (-5), .int (M2 S 0), .ref (S + 3)] M2 h D Q)) ∧ (¬ (¬ (v2 = 2)) → (EvV d nX2_addDrawer 53 [(0, .ref S), (1, .int v1), (2, .int v2), (3, .int v3), (4, .int v4), (5, .int v5)] [.int v3, .int (M2 S 0), .ref (S + 3)] M2 h D Q)))))))))) : EvV d nX2_addDrawer 0 [(0, .ref S), (1, .int v1), (2, .int v2), (3, .int v3), (4, .int v4), (5, .int v5)] [] M h D Q := by
  refine ev_aload_n (pc1 := 1) rfl rfl (TBof tbs_15 _ rfl) rfl ?_
  refine ev_getI (pc1 := 4) (ci := 2) (k := 0) (TBof tbs_15 _ rfl) rfl (fldof mo_15 fl_2_36) hS.lt0 hS.sh nk_2_0 fi_2_0 ?_
  refine ev_bipush (pc1 := 6) (x := 16) (by decide) (TBof tbs_15 _ rfl) rfl ?_
  refine ev_icmp (pc1 := 9) (t := 96) (TBof tbs_15 _ rfl) (by decide) rfl (fun c1 => ?_) (fun c1 => ?_)
  · replace H := H.1 c1
    exact ev_return (TBof tbs_15 _ rfl) rt_15 ⟨rfl, H⟩
  · replace H := H.2 c1
    refine ev_aload_n (pc1 := 10) rfl rfl (TBof tbs_15 _ rfl) rfl ?_
    refine ev_getP (pc1 := 13) (ci := 2) (k := 7) (a := (S + 1)) (TBof tbs_15 _ rfl) rfl (fldof mo_15 fl_2_9) hS.lt0 hS.sh nk_2_7 fp_2_7 hS.n28 hS.p7 ?_
    refine ev_aload_n (pc1 := 14) rfl rfl (TBof tbs_15 _ rfl) rfl ?_
    refine ev_getI (pc1 := 17) (ci := 2) (k := 0) (TBof tbs_15 _ rfl) rfl (fldof mo_15 fl_2_36) hS.lt0 hS.sh nk_2_0 fi_2_0 ?_
    refine ev_iload_n (pc1 := 18) rfl (TBof tbs_15 _ rfl) rfl ?_
    refine ev_iastore (pc1 := 19) (n := 16) (TBof tbs_15 _ rfl) rfl (hS.lt (j := 1) (by decide)) hS.a1 H.1 ?_
    replace H := H.2
    refine ev_aload_n (pc1 := 20) rfl rfl (TBof tbs_15 _ rfl) rfl ?_
    refine ev_getP (pc1 := 23) (ci := 2) (k := 8) (a := (S + 2)) (TBof tbs_15 _ rfl) rfl (fldof mo_15 fl_2_15) hS.lt0 hS.sh nk_2_8 fp_2_8 hS.n28 hS.p8 ?_
    refine ev_aload_n (pc1 := 24) rfl rfl (TBof tbs_15 _ rfl) rfl ?_
    refine ev_getI (pc1 := 27) (ci := 2) (k := 0) (TBof tbs_15 _ rfl) rfl (fldof mo_15 fl_2_36) hS.lt0 hS.sh nk_2_0 fi_2_0 ?_
    refine ev_iload_n (pc1 := 28) rfl (TBof tbs_15 _ rfl) rfl ?_
    refine ev_iastore (pc1 := 29) (n := 16) (TBof tbs_15 _ rfl) rfl (hS.lt (j := 2) (by decide)) hS.a2 H.1 ?_
    replace H := H.2
    generalize e2 : up2 (up2 M (S + 1) ((M S 0).toNatClampNeg) v1) (S + 2) (((up2 M (S + 1) ((M S 0).toNatClampNeg) v1) S 0).toNatClampNeg) v2 = M2
    replace H := H M2 e2.symm
    refine ev_aload_n (pc1 := 30) rfl rfl (TBof tbs_15 _ rfl) rfl ?_
    refine ev_getP (pc1 := 33) (ci := 2) (k := 9) (a := (S + 3)) (TBof tbs_15 _ rfl) rfl (fldof mo_15 fl_2_18) hS.lt0 hS.sh nk_2_9 fp_2_9 hS.n28 hS.p9 ?_
    refine ev_aload_n (pc1 := 34) rfl rfl (TBof tbs_15 _ rfl) rfl ?_
    refine ev_getI (pc1 := 37) (ci := 2) (k := 0) (TBof tbs_15 _ rfl) rfl (fldof mo_15 fl_2_36) hS.lt0 hS.sh nk_2_0 fi_2_0 ?_
    refine ev_iload_n (pc1 := 38) rfl (TBof tbs_15 _ rfl) rfl ?_
    refine ev_iconst (pc1 := 39) (x := 1) (by decide) (TBof tbs_15 _ rfl) rfl ?_
    refine ev_icmp (pc1 := 42) (t := 47) (TBof tbs_15 _ rfl) (by decide) rfl (fun c3 => ?_) (fun c3 => ?_)
    · replace H := H.1 c3
      refine ev_iload_n (pc1 := 48) rfl (TBof tbs_15 _ rfl) rfl ?_
      refine ev_goto (pc1 := 53) (TBof tbs_15 _ rfl) (by decide) ?_
      exact ev_le [0, 1, 2, 3, 4, 5] rfl rfl H
    · replace H := H.2 c3
      refine ev_iload_n (pc1 := 43) rfl (TBof tbs_15 _ rfl) rfl ?_
      refine ev_iconst (pc1 := 44) (x := 2) (by decide) (TBof tbs_15 _ rfl) rfl ?_
      refine ev_icmp (pc1 := 47) (t := 51) (TBof tbs_15 _ rfl) (by decide) rfl (fun c4 => ?_) (fun c4 => ?_)
      · replace H := H.1 c4
        refine ev_bipush (pc1 := 53) (x := (-5)) (by decide) (TBof tbs_15 _ rfl) rfl ?_
        exact ev_le [0, 1, 2, 3, 4, 5] rfl rfl H
      · replace H := H.2 c4
        refine ev_iload_n (pc1 := 48) rfl (TBof tbs_15 _ rfl) rfl ?_
        refine ev_goto (pc1 := 53) (TBof tbs_15 _ rfl) (by decide) ?_
        exact ev_le [0, 1, 2, 3, 4, 5] rfl rfl H
set_option maxRecDepth 100000 in
theorem R_X2_addDrawer_53 {d : Nat} {S : Nat} {v1 v2 v3 v4 v5 s0 s1 : Int32} {M : Im} {h : Hm} {D : Dm} {Q : Im → Hm → Dm → Prop} (hS : St S) (H : vp_in s1 16 ∧ (vp_in ((up2 M (S + 3) (s1.toNatClampNeg) s0) S 0) 16 ∧ (∀ M1 : Im, M1 = up2 (up2 M (S + 3) (s1.toNatClampNeg) s0) (S + 4) (((up2 M (S + 3) (s1.toNatClampNeg) s0) S 0).toNatClampNeg) v4 → (vp_in (M1 S 0) 16 ∧ (vp_in ((up2 M1 (S + 5) ((M1 S 0).toNatClampNeg) v5) S 0) 16 ∧ (∀ M2 : Im, M2 = up2 (up2 M1 (S + 5) ((M1 S 0).toNatClampNeg) v5) (S + 6) (((up2 M1 (S + 5) ((M1 S 0).toNatClampNeg) v5) S 0).toNatClampNeg) 0 → (Q (up2 M2 S 0 ((M2 S 0) + 1)) h D))))))) : EvV d nX2_addDrawer 53 [(0, .ref S), (1, .int v1), (2, .int v2), (3, .int v3), (4, .int v4), (5, .int v5)] [.int s0, .int s1, .ref (S + 3)] M h D Q := by
  refine ev_iastore (pc1 := 54) (n := 16) (TBof tbs_15 _ rfl) rfl (hS.lt (j := 3) (by decide)) hS.a3 H.1 ?_
  replace H := H.2
  refine ev_aload_n (pc1 := 55) rfl rfl (TBof tbs_15 _ rfl) rfl ?_
  refine ev_getP (pc1 := 58) (ci := 2) (k := 10) (a := (S + 4)) (TBof tbs_15 _ rfl) rfl (fldof mo_15 fl_2_21) hS.lt0 hS.sh nk_2_10 fp_2_10 hS.n28 hS.p10 ?_
  refine ev_aload_n (pc1 := 59) rfl rfl (TBof tbs_15 _ rfl) rfl ?_
  refine ev_getI (pc1 := 62) (ci := 2) (k := 0) (TBof tbs_15 _ rfl) rfl (fldof mo_15 fl_2_36) hS.lt0 hS.sh nk_2_0 fi_2_0 ?_
  refine ev_iload (pc1 := 64) rfl (TBof tbs_15 _ rfl) rfl ?_
  refine ev_iastore (pc1 := 65) (n := 16) (TBof tbs_15 _ rfl) rfl (hS.lt (j := 4) (by decide)) hS.a4 H.1 ?_
  replace H := H.2
  generalize e1 : up2 (up2 M (S + 3) (s1.toNatClampNeg) s0) (S + 4) (((up2 M (S + 3) (s1.toNatClampNeg) s0) S 0).toNatClampNeg) v4 = M1
  replace H := H M1 e1.symm
  refine ev_aload_n (pc1 := 66) rfl rfl (TBof tbs_15 _ rfl) rfl ?_
  refine ev_getP (pc1 := 69) (ci := 2) (k := 11) (a := (S + 5)) (TBof tbs_15 _ rfl) rfl (fldof mo_15 fl_2_24) hS.lt0 hS.sh nk_2_11 fp_2_11 hS.n28 hS.p11 ?_
  refine ev_aload_n (pc1 := 70) rfl rfl (TBof tbs_15 _ rfl) rfl ?_
  refine ev_getI (pc1 := 73) (ci := 2) (k := 0) (TBof tbs_15 _ rfl) rfl (fldof mo_15 fl_2_36) hS.lt0 hS.sh nk_2_0 fi_2_0 ?_
  refine ev_iload (pc1 := 75) rfl (TBof tbs_15 _ rfl) rfl ?_
  refine ev_iastore (pc1 := 76) (n := 16) (TBof tbs_15 _ rfl) rfl (hS.lt (j := 5) (by decide)) hS.a5 H.1 ?_
  replace H := H.2
  refine ev_aload_n (pc1 := 77) rfl rfl (TBof tbs_15 _ rfl) rfl ?_
  refine ev_getP (pc1 := 80) (ci := 2) (k := 12) (a := (S + 6)) (TBof tbs_15 _ rfl) rfl (fldof mo_15 fl_2_27) hS.lt0 hS.sh nk_2_12 fp_2_12 hS.n28 hS.p12 ?_
  refine ev_aload_n (pc1 := 81) rfl rfl (TBof tbs_15 _ rfl) rfl ?_
  refine ev_getI (pc1 := 84) (ci := 2) (k := 0) (TBof tbs_15 _ rfl) rfl (fldof mo_15 fl_2_36) hS.lt0 hS.sh nk_2_0 fi_2_0 ?_
  refine ev_iconst (pc1 := 85) (x := 0) (by decide) (TBof tbs_15 _ rfl) rfl ?_
  refine ev_iastore (pc1 := 86) (n := 16) (TBof tbs_15 _ rfl) rfl (hS.lt (j := 6) (by decide)) hS.a6 H.1 ?_
  replace H := H.2
  generalize e2 : up2 (up2 M1 (S + 5) ((M1 S 0).toNatClampNeg) v5) (S + 6) (((up2 M1 (S + 5) ((M1 S 0).toNatClampNeg) v5) S 0).toNatClampNeg) 0 = M2
  replace H := H M2 e2.symm
  refine ev_aload_n (pc1 := 87) rfl rfl (TBof tbs_15 _ rfl) rfl ?_
  refine ev_dup (pc1 := 88) rfl (TBof tbs_15 _ rfl) rfl ?_
  refine ev_getI (pc1 := 91) (ci := 2) (k := 0) (TBof tbs_15 _ rfl) rfl (fldof mo_15 fl_2_36) hS.lt0 hS.sh nk_2_0 fi_2_0 ?_
  refine ev_iconst (pc1 := 92) (x := 1) (by decide) (TBof tbs_15 _ rfl) rfl ?_
  refine ev_iadd (pc1 := 93) (TBof tbs_15 _ rfl) rfl ?_
  refine ev_putI (pc1 := 96) (ci := 2) (k := 0) (TBof tbs_15 _ rfl) rfl (fldof mo_15 fl_2_36) hS.lt0 hS.sh nk_2_0 rfl rfl ?_
  exact ev_return (TBof tbs_15 _ rfl) rt_15 ⟨rfl, H⟩
set_option maxRecDepth 100000 in
theorem R_X2_changeBottoms_0 {d : Nat} {S : Nat} {v1 v2 : Int32} {M : Im} {h : Hm} {D : Dm} {Q : Im → Hm → Dm → Prop} (hS : St S) (H : vp_in v1 16 ∧ (EvV d nX2_changeBottoms 9 [(0, .ref S), (1, .int v1), (2, .int v2), (3, .int 0)] [] (up2 M (S + 5) (v1.toNatClampNeg) v2) h D Q)) : EvV d nX2_changeBottoms 0 [(0, .ref S), (1, .int v1), (2, .int v2)] [] M h D Q := by
  refine ev_aload_n (pc1 := 1) rfl rfl (TBof tbs_16 _ rfl) rfl ?_
  refine ev_getP (pc1 := 4) (ci := 2) (k := 11) (a := (S + 5)) (TBof tbs_16 _ rfl) rfl (fldof mo_16 fl_2_24) hS.lt0 hS.sh nk_2_11 fp_2_11 hS.n28 hS.p11 ?_
  refine ev_iload_n (pc1 := 5) rfl (TBof tbs_16 _ rfl) rfl ?_
  refine ev_iload_n (pc1 := 6) rfl (TBof tbs_16 _ rfl) rfl ?_
  refine ev_iastore (pc1 := 7) (n := 16) (TBof tbs_16 _ rfl) rfl (hS.lt (j := 5) (by decide)) hS.a5 H.1 ?_
  replace H := H.2
  refine ev_iconst (pc1 := 8) (x := 0) (by decide) (TBof tbs_16 _ rfl) rfl ?_
  refine ev_istore_n (pc1 := 9) (L1 := [(3, .int 0), (0, .ref S), (1, .int v1), (2, .int v2)]) (by rw [ml_16]; decide) rfl (TBof tbs_16 _ rfl) rfl ?_
  exact ev_le [1, 2, 3, 0] rfl rfl H
set_option maxRecDepth 100000 in
theorem R_X2_changeBottoms_9 {d : Nat} {S : Nat} {v1 v2 v3 : Int32} {M : Im} {h : Hm} {D : Dm} {Q : Im → Hm → Dm → Prop} (hS : St S) (H : ((12 ≤ v3) → (Q M h D)) ∧ (¬ (12 ≤ v3) → (vp_in v3 12 ∧ (((¬ ((M (S + 7) (v3.toNatClampNeg)) = v1)) → (EvV d nX2_changeBottoms 9 [(0, .ref S), (1, .int v1), (2, .int v2), (3, .int (v3 + 1))] [] M h D Q)) ∧ (¬ (¬ ((M (S + 7) (v3.toNatClampNeg)) = v1)) → (vp_in v3 12 ∧ ((((M (S + 8) (v3.toNatClampNeg)) ≤ v2) → (EvV d nX2_changeBottoms 9 [(0, .ref S), (1, .int v1), (2, .int v2), (3, .int (v3 + 1))] [] M h D Q)) ∧ (¬ ((M (S + 8) (v3.toNatClampNeg)) ≤ v2) → (vp_in v3 12 ∧ (EvV d nX2_changeBottoms 9 [(0, .ref S), (1, .int v1), (2, .int v2), (3, .int (v3 + 1))] [] (up2 M (S + 8) (v3.toNatClampNeg) v2) h D Q)))))))))) : EvV d nX2_changeBottoms 9 [(0, .ref S), (1, .int v1), (2, .int v2), (3, .int v3)] [] M h D Q := by
  refine ev_iload_n (pc1 := 10) rfl (TBof tbs_16 _ rfl) rfl ?_
  refine ev_bipush (pc1 := 12) (x := 12) (by decide) (TBof tbs_16 _ rfl) rfl ?_
  refine ev_icmp (pc1 := 15) (t := 48) (TBof tbs_16 _ rfl) (by decide) rfl (fun c1 => ?_) (fun c1 => ?_)
  · replace H := H.1 c1
    exact ev_return (TBof tbs_16 _ rfl) rt_16 ⟨rfl, H⟩
  · replace H := H.2 c1
    refine ev_aload_n (pc1 := 16) rfl rfl (TBof tbs_16 _ rfl) rfl ?_
    refine ev_getP (pc1 := 19) (ci := 2) (k := 13) (a := (S + 7)) (TBof tbs_16 _ rfl) rfl (fldof mo_16 fl_2_30) hS.lt0 hS.sh nk_2_13 fp_2_13 hS.n28 hS.p13 ?_
    refine ev_iload_n (pc1 := 20) rfl (TBof tbs_16 _ rfl) rfl ?_
    refine ev_iaload (pc1 := 21) (n := 12) (TBof tbs_16 _ rfl) rfl (hS.lt (j := 7) (by decide)) hS.a7 H.1 ?_
    replace H := H.2
    refine ev_iload_n (pc1 := 22) rfl (TBof tbs_16 _ rfl) rfl ?_
    refine ev_icmp (pc1 := 25) (t := 42) (TBof tbs_16 _ rfl) (by decide) rfl (fun c2 => ?_) (fun c2 => ?_)
    · replace H := H.1 c2
      refine ev_iinc (pc1 := 45) (n := 3) (c := 1) (x := v3) (cc := 1) (L1 := [(3, .int (v3 + 1)), (0, .ref S), (1, .int v1), (2, .int v2)]) rfl (by rw [ml_16]; decide) (by decide) rfl (TBof tbs_16 _ rfl) rfl ?_
      refine ev_goto (pc1 := 9) (TBof tbs_16 _ rfl) (by decide) ?_
      exact ev_le [1, 2, 3, 0] rfl rfl H
    · replace H := H.2 c2
      refine ev_aload_n (pc1 := 26) rfl rfl (TBof tbs_16 _ rfl) rfl ?_
      refine ev_getP (pc1 := 29) (ci := 2) (k := 14) (a := (S + 8)) (TBof tbs_16 _ rfl) rfl (fldof mo_16 fl_2_33) hS.lt0 hS.sh nk_2_14 fp_2_14 hS.n28 hS.p14 ?_
      refine ev_iload_n (pc1 := 30) rfl (TBof tbs_16 _ rfl) rfl ?_
      refine ev_iaload (pc1 := 31) (n := 12) (TBof tbs_16 _ rfl) rfl (hS.lt (j := 8) (by decide)) hS.a8 H.1 ?_
      replace H := H.2
      refine ev_iload_n (pc1 := 32) rfl (TBof tbs_16 _ rfl) rfl ?_
      refine ev_icmp (pc1 := 35) (t := 42) (TBof tbs_16 _ rfl) (by decide) rfl (fun c3 => ?_) (fun c3 => ?_)
      · replace H := H.1 c3
        refine ev_iinc (pc1 := 45) (n := 3) (c := 1) (x := v3) (cc := 1) (L1 := [(3, .int (v3 + 1)), (0, .ref S), (1, .int v1), (2, .int v2)]) rfl (by rw [ml_16]; decide) (by decide) rfl (TBof tbs_16 _ rfl) rfl ?_
        refine ev_goto (pc1 := 9) (TBof tbs_16 _ rfl) (by decide) ?_
        exact ev_le [1, 2, 3, 0] rfl rfl H
      · replace H := H.2 c3
        refine ev_aload_n (pc1 := 36) rfl rfl (TBof tbs_16 _ rfl) rfl ?_
        refine ev_getP (pc1 := 39) (ci := 2) (k := 14) (a := (S + 8)) (TBof tbs_16 _ rfl) rfl (fldof mo_16 fl_2_33) hS.lt0 hS.sh nk_2_14 fp_2_14 hS.n28 hS.p14 ?_
        refine ev_iload_n (pc1 := 40) rfl (TBof tbs_16 _ rfl) rfl ?_
        refine ev_iload_n (pc1 := 41) rfl (TBof tbs_16 _ rfl) rfl ?_
        refine ev_iastore (pc1 := 42) (n := 12) (TBof tbs_16 _ rfl) rfl (hS.lt (j := 8) (by decide)) hS.a8 H.1 ?_
        replace H := H.2
        refine ev_iinc (pc1 := 45) (n := 3) (c := 1) (x := v3) (cc := 1) (L1 := [(3, .int (v3 + 1)), (0, .ref S), (1, .int v1), (2, .int v2)]) rfl (by rw [ml_16]; decide) (by decide) rfl (TBof tbs_16 _ rfl) rfl ?_
        refine ev_goto (pc1 := 9) (TBof tbs_16 _ rfl) (by decide) ?_
        exact ev_le [1, 2, 3, 0] rfl rfl H
set_option maxRecDepth 100000 in
theorem R_X2_putBack_0 {d : Nat} {S : Nat} {M : Im} {h : Hm} {D : Dm} {Q : Im → Hm → Dm → Prop} (hS : St S) (H : EvV d nX2_putBack 32 [(0, .ref S), (1, .int 0)] [] (up2 (up2 (up2 (up2 (up2 (up2 M S 1 0) S 2 0) S 3 0) S 4 0) S 5 0) S 6 0) h D Q) : EvV d nX2_putBack 0 [(0, .ref S)] [] M h D Q := by
  refine ev_aload_n (pc1 := 1) rfl rfl (TBof tbs_17 _ rfl) rfl ?_
  refine ev_iconst (pc1 := 2) (x := 0) (by decide) (TBof tbs_17 _ rfl) rfl ?_
  refine ev_putZ (pc1 := 5) (ci := 2) (k := 1) (TBof tbs_17 _ rfl) rfl (fldof mo_17 fl_2_40) hS.lt0 hS.sh nk_2_1 rfl rfl (Or.inl rfl) ?_
  refine ev_aload_n (pc1 := 6) rfl rfl (TBof tbs_17 _ rfl) rfl ?_
  refine ev_iconst (pc1 := 7) (x := 0) (by decide) (TBof tbs_17 _ rfl) rfl ?_
  refine ev_putI (pc1 := 10) (ci := 2) (k := 2) (TBof tbs_17 _ rfl) rfl (fldof mo_17 fl_2_44) hS.lt0 hS.sh nk_2_2 rfl rfl ?_
  refine ev_aload_n (pc1 := 11) rfl rfl (TBof tbs_17 _ rfl) rfl ?_
  refine ev_iconst (pc1 := 12) (x := 0) (by decide) (TBof tbs_17 _ rfl) rfl ?_
  refine ev_putI (pc1 := 15) (ci := 2) (k := 3) (TBof tbs_17 _ rfl) rfl (fldof mo_17 fl_2_47) hS.lt0 hS.sh nk_2_3 rfl rfl ?_
  refine ev_aload_n (pc1 := 16) rfl rfl (TBof tbs_17 _ rfl) rfl ?_
  refine ev_iconst (pc1 := 17) (x := 0) (by decide) (TBof tbs_17 _ rfl) rfl ?_
  refine ev_putI (pc1 := 20) (ci := 2) (k := 4) (TBof tbs_17 _ rfl) rfl (fldof mo_17 fl_2_50) hS.lt0 hS.sh nk_2_4 rfl rfl ?_
  refine ev_aload_n (pc1 := 21) rfl rfl (TBof tbs_17 _ rfl) rfl ?_
  refine ev_iconst (pc1 := 22) (x := 0) (by decide) (TBof tbs_17 _ rfl) rfl ?_
  refine ev_putI (pc1 := 25) (ci := 2) (k := 5) (TBof tbs_17 _ rfl) rfl (fldof mo_17 fl_2_53) hS.lt0 hS.sh nk_2_5 rfl rfl ?_
  refine ev_aload_n (pc1 := 26) rfl rfl (TBof tbs_17 _ rfl) rfl ?_
  refine ev_iconst (pc1 := 27) (x := 0) (by decide) (TBof tbs_17 _ rfl) rfl ?_
  refine ev_putI (pc1 := 30) (ci := 2) (k := 6) (TBof tbs_17 _ rfl) rfl (fldof mo_17 fl_2_56) hS.lt0 hS.sh nk_2_6 rfl rfl ?_
  refine ev_iconst (pc1 := 31) (x := 0) (by decide) (TBof tbs_17 _ rfl) rfl ?_
  refine ev_istore_n (pc1 := 32) (L1 := [(1, .int 0), (0, .ref S)]) (by rw [ml_17]; decide) rfl (TBof tbs_17 _ rfl) rfl ?_
  exact ev_le [1, 0] rfl rfl H
set_option maxRecDepth 100000 in
theorem R_X2_putBack_32 {d : Nat} {S : Nat} {v1 : Int32} {M : Im} {h : Hm} {D : Dm} {Q : Im → Hm → Dm → Prop} (hS : St S) (H : ((16 ≤ v1) → (Q M h D)) ∧ (¬ (16 ≤ v1) → (vp_in v1 16 ∧ (EvV d nX2_putBack 32 [(0, .ref S), (1, .int (v1 + 1))] [] (up2 M (S + 6) (v1.toNatClampNeg) 0) h D Q)))) : EvV d nX2_putBack 32 [(0, .ref S), (1, .int v1)] [] M h D Q := by
  refine ev_iload_n (pc1 := 33) rfl (TBof tbs_17 _ rfl) rfl ?_
  refine ev_bipush (pc1 := 35) (x := 16) (by decide) (TBof tbs_17 _ rfl) rfl ?_
  refine ev_icmp (pc1 := 38) (t := 51) (TBof tbs_17 _ rfl) (by decide) rfl (fun c1 => ?_) (fun c1 => ?_)
  · replace H := H.1 c1
    exact ev_return (TBof tbs_17 _ rfl) rt_17 ⟨rfl, H⟩
  · replace H := H.2 c1
    refine ev_aload_n (pc1 := 39) rfl rfl (TBof tbs_17 _ rfl) rfl ?_
    refine ev_getP (pc1 := 42) (ci := 2) (k := 12) (a := (S + 6)) (TBof tbs_17 _ rfl) rfl (fldof mo_17 fl_2_27) hS.lt0 hS.sh nk_2_12 fp_2_12 hS.n28 hS.p12 ?_
    refine ev_iload_n (pc1 := 43) rfl (TBof tbs_17 _ rfl) rfl ?_
    refine ev_iconst (pc1 := 44) (x := 0) (by decide) (TBof tbs_17 _ rfl) rfl ?_
    refine ev_iastore (pc1 := 45) (n := 16) (TBof tbs_17 _ rfl) rfl (hS.lt (j := 6) (by decide)) hS.a6 H.1 ?_
    replace H := H.2
    refine ev_iinc (pc1 := 48) (n := 1) (c := 1) (x := v1) (cc := 1) (L1 := [(1, .int (v1 + 1)), (0, .ref S)]) rfl (by rw [ml_17]; decide) (by decide) rfl (TBof tbs_17 _ rfl) rfl ?_
    refine ev_goto (pc1 := 32) (TBof tbs_17 _ rfl) (by decide) ?_
    exact ev_le [1, 0] rfl rfl H
set_option maxRecDepth 100000 in
theorem R_X2_isThere_0 {d : Nat} {S : Nat} {v1 : Int32} {M : Im} {h : Hm} {D : Dm} {Q : Int32 → Im → Hm → Dm → Prop} (hS : St S) (H : ((v1 < 0) → (Q 0 M h D)) ∧ (¬ (v1 < 0) → ((((M S 0) ≤ v1) → (Q 0 M h D)) ∧ (¬ ((M S 0) ≤ v1) → (Q 1 M h D))))) : EvI d nX2_isThere 0 [(0, .ref S), (1, .int v1)] [] M h D Q := by
  refine ev_iload_n (pc1 := 1) rfl (TBof tbs_18 _ rfl) rfl ?_
  refine ev_if (pc1 := 4) (t := 16) (TBof tbs_18 _ rfl) (by decide) rfl (fun c1 => ?_) (fun c1 => ?_)
  · replace H := H.1 c1
    refine ev_iconst (pc1 := 17) (x := 0) (by decide) (TBof tbs_18 _ rfl) rfl ?_
    exact ev_ireturn (TBof tbs_18 _ rfl) (retI_z rt_18 (Or.inl rfl)) ⟨_, rfl, H⟩
  · replace H := H.2 c1
    refine ev_iload_n (pc1 := 5) rfl (TBof tbs_18 _ rfl) rfl ?_
    refine ev_aload_n (pc1 := 6) rfl rfl (TBof tbs_18 _ rfl) rfl ?_
    refine ev_getI (pc1 := 9) (ci := 2) (k := 0) (TBof tbs_18 _ rfl) rfl (fldof mo_18 fl_2_36) hS.lt0 hS.sh nk_2_0 fi_2_0 ?_
    refine ev_icmp (pc1 := 12) (t := 16) (TBof tbs_18 _ rfl) (by decide) rfl (fun c2 => ?_) (fun c2 => ?_)
    · replace H := H.1 c2
      refine ev_iconst (pc1 := 17) (x := 0) (by decide) (TBof tbs_18 _ rfl) rfl ?_
      exact ev_ireturn (TBof tbs_18 _ rfl) (retI_z rt_18 (Or.inl rfl)) ⟨_, rfl, H⟩
    · replace H := H.2 c2
      refine ev_iconst (pc1 := 13) (x := 1) (by decide) (TBof tbs_18 _ rfl) rfl ?_
      refine ev_goto (pc1 := 17) (TBof tbs_18 _ rfl) (by decide) ?_
      exact ev_ireturn (TBof tbs_18 _ rfl) (retI_z rt_18 (Or.inr rfl)) ⟨_, rfl, H⟩
set_option maxRecDepth 100000 in
theorem R_X2_isOpen_0 {d : Nat} {S : Nat} {v1 : Int32} {M : Im} {h : Hm} {D : Dm} {Q : Int32 → Im → Hm → Dm → Prop} (hS : St S) (H : ((((M S 4) &&& (1 <<< (v1 &&& 31))) = 0) → (Q 0 M h D)) ∧ (¬ (((M S 4) &&& (1 <<< (v1 &&& 31))) = 0) → (Q 1 M h D))) : EvI d nX2_isOpen 0 [(0, .ref S), (1, .int v1)] [] M h D Q := by
  refine ev_aload_n (pc1 := 1) rfl rfl (TBof tbs_19 _ rfl) rfl ?_
  refine ev_getI (pc1 := 4) (ci := 2) (k := 4) (TBof tbs_19 _ rfl) rfl (fldof mo_19 fl_2_50) hS.lt0 hS.sh nk_2_4 fi_2_4 ?_
  refine ev_iconst (pc1 := 5) (x := 1) (by decide) (TBof tbs_19 _ rfl) rfl ?_
  refine ev_iload_n (pc1 := 6) rfl (TBof tbs_19 _ rfl) rfl ?_
  refine ev_ishl (pc1 := 7) (TBof tbs_19 _ rfl) rfl ?_
  refine ev_iand (pc1 := 8) (TBof tbs_19 _ rfl) rfl ?_
  refine ev_if (pc1 := 11) (t := 15) (TBof tbs_19 _ rfl) (by decide) rfl (fun c1 => ?_) (fun c1 => ?_)
  · replace H := H.1 c1
    refine ev_iconst (pc1 := 16) (x := 0) (by decide) (TBof tbs_19 _ rfl) rfl ?_
    exact ev_ireturn (TBof tbs_19 _ rfl) (retI_z rt_19 (Or.inl rfl)) ⟨_, rfl, H⟩
  · replace H := H.2 c1
    refine ev_iconst (pc1 := 12) (x := 1) (by decide) (TBof tbs_19 _ rfl) rfl ?_
    refine ev_goto (pc1 := 16) (TBof tbs_19 _ rfl) (by decide) ?_
    exact ev_ireturn (TBof tbs_19 _ rfl) (retI_z rt_19 (Or.inr rfl)) ⟨_, rfl, H⟩
set_option maxRecDepth 100000 in
theorem R_X2_isInHand_0 {d : Nat} {S : Nat} {v1 : Int32} {M : Im} {h : Hm} {D : Dm} {Q : Int32 → Im → Hm → Dm → Prop} (hS : St S) (H : ((((M S 6) &&& (1 <<< (v1 &&& 31))) = 0) → (Q 0 M h D)) ∧ (¬ (((M S 6) &&& (1 <<< (v1 &&& 31))) = 0) → (Q 1 M h D))) : EvI d nX2_isInHand 0 [(0, .ref S), (1, .int v1)] [] M h D Q := by
  refine ev_aload_n (pc1 := 1) rfl rfl (TBof tbs_20 _ rfl) rfl ?_
  refine ev_getI (pc1 := 4) (ci := 2) (k := 6) (TBof tbs_20 _ rfl) rfl (fldof mo_20 fl_2_56) hS.lt0 hS.sh nk_2_6 fi_2_6 ?_
  refine ev_iconst (pc1 := 5) (x := 1) (by decide) (TBof tbs_20 _ rfl) rfl ?_
  refine ev_iload_n (pc1 := 6) rfl (TBof tbs_20 _ rfl) rfl ?_
  refine ev_ishl (pc1 := 7) (TBof tbs_20 _ rfl) rfl ?_
  refine ev_iand (pc1 := 8) (TBof tbs_20 _ rfl) rfl ?_
  refine ev_if (pc1 := 11) (t := 15) (TBof tbs_20 _ rfl) (by decide) rfl (fun c1 => ?_) (fun c1 => ?_)
  · replace H := H.1 c1
    refine ev_iconst (pc1 := 16) (x := 0) (by decide) (TBof tbs_20 _ rfl) rfl ?_
    exact ev_ireturn (TBof tbs_20 _ rfl) (retI_z rt_20 (Or.inl rfl)) ⟨_, rfl, H⟩
  · replace H := H.2 c1
    refine ev_iconst (pc1 := 12) (x := 1) (by decide) (TBof tbs_20 _ rfl) rfl ?_
    refine ev_goto (pc1 := 16) (TBof tbs_20 _ rfl) (by decide) ?_
    exact ev_ireturn (TBof tbs_20 _ rfl) (retI_z rt_20 (Or.inr rfl)) ⟨_, rfl, H⟩
set_option maxRecDepth 100000 in
theorem R_X2_isReached_0 {d : Nat} {S : Nat} {v1 : Int32} {M : Im} {h : Hm} {D : Dm} {Q : Int32 → Im → Hm → Dm → Prop} (hS : St S) (H : vp_in v1 16 ∧ (EvI d nX2_isReached 9 [(0, .ref S), (1, .int v1), (2, .int (M (S + 1) (v1.toNatClampNeg))), (3, .int 0)] [] M h D Q)) : EvI d nX2_isReached 0 [(0, .ref S), (1, .int v1)] [] M h D Q := by
  refine ev_aload_n (pc1 := 1) rfl rfl (TBof tbs_21 _ rfl) rfl ?_
  refine ev_getP (pc1 := 4) (ci := 2) (k := 7) (a := (S + 1)) (TBof tbs_21 _ rfl) rfl (fldof mo_21 fl_2_9) hS.lt0 hS.sh nk_2_7 fp_2_7 hS.n28 hS.p7 ?_
  refine ev_iload_n (pc1 := 5) rfl (TBof tbs_21 _ rfl) rfl ?_
  refine ev_iaload (pc1 := 6) (n := 16) (TBof tbs_21 _ rfl) rfl (hS.lt (j := 1) (by decide)) hS.a1 H.1 ?_
  replace H := H.2
  refine ev_istore_n (pc1 := 7) (L1 := [(2, .int (M (S + 1) (v1.toNatClampNeg))), (0, .ref S), (1, .int v1)]) (by rw [ml_21]; decide) rfl (TBof tbs_21 _ rfl) rfl ?_
  refine ev_iconst (pc1 := 8) (x := 0) (by decide) (TBof tbs_21 _ rfl) rfl ?_
  refine ev_istore_n (pc1 := 9) (L1 := [(3, .int 0), (2, .int (M (S + 1) (v1.toNatClampNeg))), (0, .ref S), (1, .int v1)]) (by rw [ml_21]; decide) rfl (TBof tbs_21 _ rfl) rfl ?_
  exact ev_le [2, 3, 1, 0] rfl rfl H
set_option maxRecDepth 100000 in
theorem R_X2_isReached_9 {d : Nat} {S : Nat} {v1 v2 v3 : Int32} {M : Im} {h : Hm} {D : Dm} {Q : Int32 → Im → Hm → Dm → Prop} (hS : St S) (H : ((16 ≤ v3) → (Q 1 M h D)) ∧ (¬ (16 ≤ v3) → (CI d nX2_isThere [.ref S, .int v2] M h D (fun x2 M2 h2 D2 => ((x2 = 0) → (Q 1 M2 h2 D2)) ∧ (¬ (x2 = 0) → (CI d nX2_isOpen [.ref S, .int v2] M2 h2 D2 (fun x4 M4 h4 D4 => ((¬ (x4 = 0)) → (vp_in v2 16 ∧ (EvI d nX2_isReached 9 [(0, .ref S), (1, .int v1), (2, .int (M4 (S + 1) (v2.toNatClampNeg))), (3, .int (v3 + 1))] [] M4 h4 D4 Q))) ∧ (¬ (¬ (x4 = 0)) → (Q 0 M4 h4 D4))))))))) : EvI d nX2_isReached 9 [(0, .ref S), (1, .int v1), (2, .int v2), (3, .int v3)] [] M h D Q := by
  refine ev_iload_n (pc1 := 10) rfl (TBof tbs_21 _ rfl) rfl ?_
  refine ev_bipush (pc1 := 12) (x := 16) (by decide) (TBof tbs_21 _ rfl) rfl ?_
  refine ev_icmp (pc1 := 15) (t := 46) (TBof tbs_21 _ rfl) (by decide) rfl (fun c1 => ?_) (fun c1 => ?_)
  · replace H := H.1 c1
    refine ev_iconst (pc1 := 47) (x := 1) (by decide) (TBof tbs_21 _ rfl) rfl ?_
    exact ev_ireturn (TBof tbs_21 _ rfl) (retI_z rt_21 (Or.inr rfl)) ⟨_, rfl, H⟩
  · replace H := H.2 c1
    refine ev_aload_n (pc1 := 16) rfl rfl (TBof tbs_21 _ rfl) rfl ?_
    refine ev_iload_n (pc1 := 17) rfl (TBof tbs_21 _ rfl) rfl ?_
    refine ev_callvI (pc1 := 20) (as := [.int v2]) (r := []) (TBof tbs_21 _ rfl) rfl (lnkof mo_21 ln_2_65) rfl na_18 hS.lt0 (hS.sh.trans (by rw [mo_18])) (Nat.le_of_ble_eq_true rfl) H (fun x2 M2 h2 D2 H => ?_)
    refine ev_if (pc1 := 23) (t := 46) (TBof tbs_21 _ rfl) (by decide) rfl (fun c3 => ?_) (fun c3 => ?_)
    · replace H := H.1 c3
      refine ev_iconst (pc1 := 47) (x := 1) (by decide) (TBof tbs_21 _ rfl) rfl ?_
      exact ev_ireturn (TBof tbs_21 _ rfl) (retI_z rt_21 (Or.inr rfl)) ⟨_, rfl, H⟩
    · replace H := H.2 c3
      refine ev_aload_n (pc1 := 24) rfl rfl (TBof tbs_21 _ rfl) rfl ?_
      refine ev_iload_n (pc1 := 25) rfl (TBof tbs_21 _ rfl) rfl ?_
      refine ev_callvI (pc1 := 28) (as := [.int v2]) (r := []) (TBof tbs_21 _ rfl) rfl (lnkof mo_21 ln_2_69) rfl na_19 hS.lt0 (hS.sh.trans (by rw [mo_19])) (Nat.le_of_ble_eq_true rfl) H (fun x4 M4 h4 D4 H => ?_)
      refine ev_if (pc1 := 31) (t := 33) (TBof tbs_21 _ rfl) (by decide) rfl (fun c5 => ?_) (fun c5 => ?_)
      · replace H := H.1 c5
        refine ev_aload_n (pc1 := 34) rfl rfl (TBof tbs_21 _ rfl) rfl ?_
        refine ev_getP (pc1 := 37) (ci := 2) (k := 7) (a := (S + 1)) (TBof tbs_21 _ rfl) rfl (fldof mo_21 fl_2_9) hS.lt0 hS.sh nk_2_7 fp_2_7 hS.n28 hS.p7 ?_
        refine ev_iload_n (pc1 := 38) rfl (TBof tbs_21 _ rfl) rfl ?_
        refine ev_iaload (pc1 := 39) (n := 16) (TBof tbs_21 _ rfl) rfl (hS.lt (j := 1) (by decide)) hS.a1 H.1 ?_
        replace H := H.2
        refine ev_istore_n (pc1 := 40) (L1 := [(2, .int (M4 (S + 1) (v2.toNatClampNeg))), (0, .ref S), (1, .int v1), (3, .int v3)]) (by rw [ml_21]; decide) rfl (TBof tbs_21 _ rfl) rfl ?_
        refine ev_iinc (pc1 := 43) (n := 3) (c := 1) (x := v3) (cc := 1) (L1 := [(3, .int (v3 + 1)), (2, .int (M4 (S + 1) (v2.toNatClampNeg))), (0, .ref S), (1, .int v1)]) rfl (by rw [ml_21]; decide) (by decide) rfl (TBof tbs_21 _ rfl) rfl ?_
        refine ev_goto (pc1 := 9) (TBof tbs_21 _ rfl) (by decide) ?_
        exact ev_le [2, 3, 1, 0] rfl rfl H
      · replace H := H.2 c5
        refine ev_iconst (pc1 := 32) (x := 0) (by decide) (TBof tbs_21 _ rfl) rfl ?_
        exact ev_ireturn (TBof tbs_21 _ rfl) (retI_z rt_21 (Or.inl rfl)) ⟨_, rfl, H⟩
set_option maxRecDepth 100000 in
theorem R_X2_canOpen_0 {d : Nat} {S : Nat} {v1 : Int32} {M : Im} {h : Hm} {D : Dm} {Q : Int32 → Im → Hm → Dm → Prop} (hS : St S) (H : CI d nX2_isOpen [.ref S, .int v1] M h D (fun x1 M1 h1 D1 => ((¬ (x1 = 0)) → (Q 0 M1 h1 D1)) ∧ (¬ (¬ (x1 = 0)) → (CI d nX2_isReached [.ref S, .int v1] M1 h1 D1 (fun x3 M3 h3 D3 => ((x3 = 0) → (Q 0 M3 h3 D3)) ∧ (¬ (x3 = 0) → (CI d nX2_isLetByHold [.ref S, .int v1] M3 h3 D3 (fun x5 M5 h5 D5 => ((x5 = 0) → (Q 0 M5 h5 D5)) ∧ (¬ (x5 = 0) → (Q 1 M5 h5 D5)))))))))) : EvI d nX2_canOpen 0 [(0, .ref S), (1, .int v1)] [] M h D Q := by
  refine ev_aload_n (pc1 := 1) rfl rfl (TBof tbs_22 _ rfl) rfl ?_
  refine ev_iload_n (pc1 := 2) rfl (TBof tbs_22 _ rfl) rfl ?_
  refine ev_callvI (pc1 := 5) (as := [.int v1]) (r := []) (TBof tbs_22 _ rfl) rfl (lnkof mo_22 ln_2_69) rfl na_19 hS.lt0 (hS.sh.trans (by rw [mo_19])) (Nat.le_of_ble_eq_true rfl) H (fun x1 M1 h1 D1 H => ?_)
  refine ev_if (pc1 := 8) (t := 28) (TBof tbs_22 _ rfl) (by decide) rfl (fun c2 => ?_) (fun c2 => ?_)
  · replace H := H.1 c2
    refine ev_iconst (pc1 := 29) (x := 0) (by decide) (TBof tbs_22 _ rfl) rfl ?_
    exact ev_ireturn (TBof tbs_22 _ rfl) (retI_z rt_22 (Or.inl rfl)) ⟨_, rfl, H⟩
  · replace H := H.2 c2
    refine ev_aload_n (pc1 := 9) rfl rfl (TBof tbs_22 _ rfl) rfl ?_
    refine ev_iload_n (pc1 := 10) rfl (TBof tbs_22 _ rfl) rfl ?_
    refine ev_callvI (pc1 := 13) (as := [.int v1]) (r := []) (TBof tbs_22 _ rfl) rfl (lnkof mo_22 ln_2_72) rfl na_21 hS.lt0 (hS.sh.trans (by rw [mo_21])) (Nat.le_of_ble_eq_true rfl) H (fun x3 M3 h3 D3 H => ?_)
    refine ev_if (pc1 := 16) (t := 28) (TBof tbs_22 _ rfl) (by decide) rfl (fun c4 => ?_) (fun c4 => ?_)
    · replace H := H.1 c4
      refine ev_iconst (pc1 := 29) (x := 0) (by decide) (TBof tbs_22 _ rfl) rfl ?_
      exact ev_ireturn (TBof tbs_22 _ rfl) (retI_z rt_22 (Or.inl rfl)) ⟨_, rfl, H⟩
    · replace H := H.2 c4
      refine ev_aload_n (pc1 := 17) rfl rfl (TBof tbs_22 _ rfl) rfl ?_
      refine ev_iload_n (pc1 := 18) rfl (TBof tbs_22 _ rfl) rfl ?_
      refine ev_callvI (pc1 := 21) (as := [.int v1]) (r := []) (TBof tbs_22 _ rfl) rfl (lnkof mo_22 ln_2_75) rfl na_23 hS.lt0 (hS.sh.trans (by rw [mo_23])) (Nat.le_of_ble_eq_true rfl) H (fun x5 M5 h5 D5 H => ?_)
      refine ev_if (pc1 := 24) (t := 28) (TBof tbs_22 _ rfl) (by decide) rfl (fun c6 => ?_) (fun c6 => ?_)
      · replace H := H.1 c6
        refine ev_iconst (pc1 := 29) (x := 0) (by decide) (TBof tbs_22 _ rfl) rfl ?_
        exact ev_ireturn (TBof tbs_22 _ rfl) (retI_z rt_22 (Or.inl rfl)) ⟨_, rfl, H⟩
      · replace H := H.2 c6
        refine ev_iconst (pc1 := 25) (x := 1) (by decide) (TBof tbs_22 _ rfl) rfl ?_
        refine ev_goto (pc1 := 29) (TBof tbs_22 _ rfl) (by decide) ?_
        exact ev_ireturn (TBof tbs_22 _ rfl) (retI_z rt_22 (Or.inr rfl)) ⟨_, rfl, H⟩
set_option maxRecDepth 100000 in
theorem R_X2_isLetByHold_0 {d : Nat} {S : Nat} {v1 : Int32} {M : Im} {h : Hm} {D : Dm} {Q : Int32 → Im → Hm → Dm → Prop} (hS : St S) (H : vp_in v1 16 ∧ ((((M (S + 2) (v1.toNatClampNeg)) = 1) → (vp_in v1 16 ∧ (CI d nX2_isInHand [.ref S, .int (M (S + 3) (v1.toNatClampNeg))] M h D (fun x1 M1 h1 D1 => (x1 = 0 ∨ x1 = 1) ∧ Q x1 M1 h1 D1)))) ∧ (((M (S + 2) (v1.toNatClampNeg)) = 2) → (vp_in v1 16 ∧ (CI d nX2_isOpen [.ref S, .int (M (S + 3) (v1.toNatClampNeg))] M h D (fun x2 M2 h2 D2 => (x2 = 0 ∨ x2 = 1) ∧ Q x2 M2 h2 D2)))) ∧ (¬ ((M (S + 2) (v1.toNatClampNeg)) = 1) → ¬ ((M (S + 2) (v1.toNatClampNeg)) = 2) → (Q 1 M h D)))) : EvI d nX2_isLetByHold 0 [(0, .ref S), (1, .int v1)] [] M h D Q := by
  refine ev_aload_n (pc1 := 1) rfl rfl (TBof tbs_23 _ rfl) rfl ?_
  refine ev_getP (pc1 := 4) (ci := 2) (k := 8) (a := (S + 2)) (TBof tbs_23 _ rfl) rfl (fldof mo_23 fl_2_15) hS.lt0 hS.sh nk_2_8 fp_2_8 hS.n28 hS.p8 ?_
  refine ev_iload_n (pc1 := 5) rfl (TBof tbs_23 _ rfl) rfl ?_
  refine ev_iaload (pc1 := 6) (n := 16) (TBof tbs_23 _ rfl) rfl (hS.lt (j := 2) (by decide)) hS.a2 H.1 ?_
  replace H := H.2
  by_cases c3_0 : (M (S + 2) (v1.toNatClampNeg)) = 1
  · replace H := H.1 c3_0
    refine ev_lookup (t := 32) (TBof tbs_23 _ rfl) (by decide) (by rw [c3_0]; decide) ?_
    refine ev_aload_n (pc1 := 33) rfl rfl (TBof tbs_23 _ rfl) rfl ?_
    refine ev_aload_n (pc1 := 34) rfl rfl (TBof tbs_23 _ rfl) rfl ?_
    refine ev_getP (pc1 := 37) (ci := 2) (k := 9) (a := (S + 3)) (TBof tbs_23 _ rfl) rfl (fldof mo_23 fl_2_18) hS.lt0 hS.sh nk_2_9 fp_2_9 hS.n28 hS.p9 ?_
    refine ev_iload_n (pc1 := 38) rfl (TBof tbs_23 _ rfl) rfl ?_
    refine ev_iaload (pc1 := 39) (n := 16) (TBof tbs_23 _ rfl) rfl (hS.lt (j := 3) (by decide)) hS.a3 H.1 ?_
    replace H := H.2
    refine ev_callvI (pc1 := 42) (as := [.int (M (S + 3) (v1.toNatClampNeg))]) (r := []) (TBof tbs_23 _ rfl) rfl (lnkof mo_23 ln_2_78) rfl na_20 hS.lt0 (hS.sh.trans (by rw [mo_20])) (Nat.le_of_ble_eq_true rfl) H (fun x1 M1 h1 D1 H => ?_)
    exact ev_ireturn (TBof tbs_23 _ rfl) (retI_z rt_23 H.1) ⟨_, rfl, H.2⟩
  by_cases c3_1 : (M (S + 2) (v1.toNatClampNeg)) = 2
  · replace H := H.2.1 c3_1
    refine ev_lookup (t := 43) (TBof tbs_23 _ rfl) (by decide) (by rw [c3_1]; decide) ?_
    refine ev_aload_n (pc1 := 44) rfl rfl (TBof tbs_23 _ rfl) rfl ?_
    refine ev_aload_n (pc1 := 45) rfl rfl (TBof tbs_23 _ rfl) rfl ?_
    refine ev_getP (pc1 := 48) (ci := 2) (k := 9) (a := (S + 3)) (TBof tbs_23 _ rfl) rfl (fldof mo_23 fl_2_18) hS.lt0 hS.sh nk_2_9 fp_2_9 hS.n28 hS.p9 ?_
    refine ev_iload_n (pc1 := 49) rfl (TBof tbs_23 _ rfl) rfl ?_
    refine ev_iaload (pc1 := 50) (n := 16) (TBof tbs_23 _ rfl) rfl (hS.lt (j := 3) (by decide)) hS.a3 H.1 ?_
    replace H := H.2
    refine ev_callvI (pc1 := 53) (as := [.int (M (S + 3) (v1.toNatClampNeg))]) (r := []) (TBof tbs_23 _ rfl) rfl (lnkof mo_23 ln_2_69) rfl na_19 hS.lt0 (hS.sh.trans (by rw [mo_19])) (Nat.le_of_ble_eq_true rfl) H (fun x2 M2 h2 D2 H => ?_)
    exact ev_ireturn (TBof tbs_23 _ rfl) (retI_z rt_23 H.1) ⟨_, rfl, H.2⟩
  replace H := H.2.2 c3_0 c3_1
  refine ev_lookup (t := 54) (TBof tbs_23 _ rfl) (by decide) (by rw [show (#[(1, 26), (2, 37)] : Array (Int × Int)).toList = [(1, 26), (2, 37)] from rfl, lv_osw (k := 1) c3_0 (by decide), lv_osw (k := 2) c3_1 (by decide), Op.lookupswitch.offset_nil]; decide) ?_
  refine ev_iconst (pc1 := 55) (x := 1) (by decide) (TBof tbs_23 _ rfl) rfl ?_
  exact ev_ireturn (TBof tbs_23 _ rfl) (retI_z rt_23 (Or.inr rfl)) ⟨_, rfl, H⟩
set_option maxRecDepth 100000 in
theorem R_X2_hasBottomLeft_0 {d : Nat} {S : Nat} {v1 : Int32} {M : Im} {h : Hm} {D : Dm} {Q : Int32 → Im → Hm → Dm → Prop} (hS : St S) (H : vp_in v1 16 ∧ (vp_in v1 16 ∧ ((((M (S + 5) (v1.toNatClampNeg)) ≤ (M (S + 6) (v1.toNatClampNeg))) → (Q 0 M h D)) ∧ (¬ ((M (S + 5) (v1.toNatClampNeg)) ≤ (M (S + 6) (v1.toNatClampNeg))) → (Q 1 M h D))))) : EvI d nX2_hasBottomLeft 0 [(0, .ref S), (1, .int v1)] [] M h D Q := by
  refine ev_aload_n (pc1 := 1) rfl rfl (TBof tbs_24 _ rfl) rfl ?_
  refine ev_getP (pc1 := 4) (ci := 2) (k := 12) (a := (S + 6)) (TBof tbs_24 _ rfl) rfl (fldof mo_24 fl_2_27) hS.lt0 hS.sh nk_2_12 fp_2_12 hS.n28 hS.p12 ?_
  refine ev_iload_n (pc1 := 5) rfl (TBof tbs_24 _ rfl) rfl ?_
  refine ev_iaload (pc1 := 6) (n := 16) (TBof tbs_24 _ rfl) rfl (hS.lt (j := 6) (by decide)) hS.a6 H.1 ?_
  replace H := H.2
  refine ev_aload_n (pc1 := 7) rfl rfl (TBof tbs_24 _ rfl) rfl ?_
  refine ev_getP (pc1 := 10) (ci := 2) (k := 11) (a := (S + 5)) (TBof tbs_24 _ rfl) rfl (fldof mo_24 fl_2_24) hS.lt0 hS.sh nk_2_11 fp_2_11 hS.n28 hS.p11 ?_
  refine ev_iload_n (pc1 := 11) rfl (TBof tbs_24 _ rfl) rfl ?_
  refine ev_iaload (pc1 := 12) (n := 16) (TBof tbs_24 _ rfl) rfl (hS.lt (j := 5) (by decide)) hS.a5 H.1 ?_
  replace H := H.2
  refine ev_icmp (pc1 := 15) (t := 19) (TBof tbs_24 _ rfl) (by decide) rfl (fun c1 => ?_) (fun c1 => ?_)
  · replace H := H.1 c1
    refine ev_iconst (pc1 := 20) (x := 0) (by decide) (TBof tbs_24 _ rfl) rfl ?_
    exact ev_ireturn (TBof tbs_24 _ rfl) (retI_z rt_24 (Or.inl rfl)) ⟨_, rfl, H⟩
  · replace H := H.2 c1
    refine ev_iconst (pc1 := 16) (x := 1) (by decide) (TBof tbs_24 _ rfl) rfl ?_
    refine ev_goto (pc1 := 20) (TBof tbs_24 _ rfl) (by decide) ?_
    exact ev_ireturn (TBof tbs_24 _ rfl) (retI_z rt_24 (Or.inr rfl)) ⟨_, rfl, H⟩
set_option maxRecDepth 100000 in
theorem R_X2_canLift_0 {d : Nat} {S : Nat} {v1 : Int32} {M : Im} {h : Hm} {D : Dm} {Q : Int32 → Im → Hm → Dm → Prop} (hS : St S) (H : CI d nX2_hasBottomLeft [.ref S, .int v1] M h D (fun x1 M1 h1 D1 => ((x1 = 0) → (Q 0 M1 h1 D1)) ∧ (¬ (x1 = 0) → (CI d nX2_isOpen [.ref S, .int v1] M1 h1 D1 (fun x3 M3 h3 D3 => ((x3 = 0) → (Q 0 M3 h3 D3)) ∧ (¬ (x3 = 0) → (CI d nX2_isReached [.ref S, .int v1] M3 h3 D3 (fun x5 M5 h5 D5 => ((x5 = 0) → (Q 0 M5 h5 D5)) ∧ (¬ (x5 = 0) → (CI d nX2_isInHand [.ref S, .int 10] M5 h5 D5 (fun x7 M7 h7 D7 => ((x7 = 0) → (Q 0 M7 h7 D7)) ∧ (¬ (x7 = 0) → (Q 1 M7 h7 D7))))))))))))) : EvI d nX2_canLift 0 [(0, .ref S), (1, .int v1)] [] M h D Q := by
  refine ev_aload_n (pc1 := 1) rfl rfl (TBof tbs_25 _ rfl) rfl ?_
  refine ev_iload_n (pc1 := 2) rfl (TBof tbs_25 _ rfl) rfl ?_
  refine ev_callvI (pc1 := 5) (as := [.int v1]) (r := []) (TBof tbs_25 _ rfl) rfl (lnkof mo_25 ln_2_81) rfl na_24 hS.lt0 (hS.sh.trans (by rw [mo_24])) (Nat.le_of_ble_eq_true rfl) H (fun x1 M1 h1 D1 H => ?_)
  refine ev_if (pc1 := 8) (t := 37) (TBof tbs_25 _ rfl) (by decide) rfl (fun c2 => ?_) (fun c2 => ?_)
  · replace H := H.1 c2
    refine ev_iconst (pc1 := 38) (x := 0) (by decide) (TBof tbs_25 _ rfl) rfl ?_
    exact ev_ireturn (TBof tbs_25 _ rfl) (retI_z rt_25 (Or.inl rfl)) ⟨_, rfl, H⟩
  · replace H := H.2 c2
    refine ev_aload_n (pc1 := 9) rfl rfl (TBof tbs_25 _ rfl) rfl ?_
    refine ev_iload_n (pc1 := 10) rfl (TBof tbs_25 _ rfl) rfl ?_
    refine ev_callvI (pc1 := 13) (as := [.int v1]) (r := []) (TBof tbs_25 _ rfl) rfl (lnkof mo_25 ln_2_69) rfl na_19 hS.lt0 (hS.sh.trans (by rw [mo_19])) (Nat.le_of_ble_eq_true rfl) H (fun x3 M3 h3 D3 H => ?_)
    refine ev_if (pc1 := 16) (t := 37) (TBof tbs_25 _ rfl) (by decide) rfl (fun c4 => ?_) (fun c4 => ?_)
    · replace H := H.1 c4
      refine ev_iconst (pc1 := 38) (x := 0) (by decide) (TBof tbs_25 _ rfl) rfl ?_
      exact ev_ireturn (TBof tbs_25 _ rfl) (retI_z rt_25 (Or.inl rfl)) ⟨_, rfl, H⟩
    · replace H := H.2 c4
      refine ev_aload_n (pc1 := 17) rfl rfl (TBof tbs_25 _ rfl) rfl ?_
      refine ev_iload_n (pc1 := 18) rfl (TBof tbs_25 _ rfl) rfl ?_
      refine ev_callvI (pc1 := 21) (as := [.int v1]) (r := []) (TBof tbs_25 _ rfl) rfl (lnkof mo_25 ln_2_72) rfl na_21 hS.lt0 (hS.sh.trans (by rw [mo_21])) (Nat.le_of_ble_eq_true rfl) H (fun x5 M5 h5 D5 H => ?_)
      refine ev_if (pc1 := 24) (t := 37) (TBof tbs_25 _ rfl) (by decide) rfl (fun c6 => ?_) (fun c6 => ?_)
      · replace H := H.1 c6
        refine ev_iconst (pc1 := 38) (x := 0) (by decide) (TBof tbs_25 _ rfl) rfl ?_
        exact ev_ireturn (TBof tbs_25 _ rfl) (retI_z rt_25 (Or.inl rfl)) ⟨_, rfl, H⟩
      · replace H := H.2 c6
        refine ev_aload_n (pc1 := 25) rfl rfl (TBof tbs_25 _ rfl) rfl ?_
        refine ev_bipush (pc1 := 27) (x := 10) (by decide) (TBof tbs_25 _ rfl) rfl ?_
        refine ev_callvI (pc1 := 30) (as := [.int 10]) (r := []) (TBof tbs_25 _ rfl) rfl (lnkof mo_25 ln_2_78) rfl na_20 hS.lt0 (hS.sh.trans (by rw [mo_20])) (Nat.le_of_ble_eq_true rfl) H (fun x7 M7 h7 D7 H => ?_)
        refine ev_if (pc1 := 33) (t := 37) (TBof tbs_25 _ rfl) (by decide) rfl (fun c8 => ?_) (fun c8 => ?_)
        · replace H := H.1 c8
          refine ev_iconst (pc1 := 38) (x := 0) (by decide) (TBof tbs_25 _ rfl) rfl ?_
          exact ev_ireturn (TBof tbs_25 _ rfl) (retI_z rt_25 (Or.inl rfl)) ⟨_, rfl, H⟩
        · replace H := H.2 c8
          refine ev_iconst (pc1 := 34) (x := 1) (by decide) (TBof tbs_25 _ rfl) rfl ?_
          refine ev_goto (pc1 := 38) (TBof tbs_25 _ rfl) (by decide) ?_
          exact ev_ireturn (TBof tbs_25 _ rfl) (retI_z rt_25 (Or.inr rfl)) ⟨_, rfl, H⟩
set_option maxRecDepth 100000 in
theorem R_X2_canTake_0 {d : Nat} {S : Nat} {v1 : Int32} {M : Im} {h : Hm} {D : Dm} {Q : Int32 → Im → Hm → Dm → Prop} (hS : St S) (H : CI d nX2_isInHand [.ref S, .int v1] M h D (fun x1 M1 h1 D1 => ((x1 = 0) → (vp_in v1 12 ∧ (CI d nX2_isThere [.ref S, .int (M1 (S + 7) (v1.toNatClampNeg))] M1 h1 D1 (fun x3 M3 h3 D3 => ((¬ (x3 = 0)) → (CI d nX2_isOpen [.ref S, .int (M1 (S + 7) (v1.toNatClampNeg))] M3 h3 D3 (fun x5 M5 h5 D5 => ((x5 = 0) → (Q 0 M5 h5 D5)) ∧ (¬ (x5 = 0) → (CI d nX2_isReached [.ref S, .int (M1 (S + 7) (v1.toNatClampNeg))] M5 h5 D5 (fun x7 M7 h7 D7 => ((x7 = 0) → (Q 0 M7 h7 D7)) ∧ (¬ (x7 = 0) → (vp_in (M1 (S + 7) (v1.toNatClampNeg)) 16 ∧ (vp_in v1 12 ∧ ((((M7 (S + 6) ((M1 (S + 7) (v1.toNatClampNeg)).toNatClampNeg)) < (M7 (S + 8) (v1.toNatClampNeg))) → (Q 0 M7 h7 D7)) ∧ (¬ ((M7 (S + 6) ((M1 (S + 7) (v1.toNatClampNeg)).toNatClampNeg)) < (M7 (S + 8) (v1.toNatClampNeg))) → (Q 1 M7 h7 D7)))))))))))) ∧ (¬ (¬ (x3 = 0)) → (Q 1 M3 h3 D3)))))) ∧ (¬ (x1 = 0) → (Q 0 M1 h1 D1)))) : EvI d nX2_canTake 0 [(0, .ref S), (1, .int v1)] [] M h D Q := by
  refine ev_aload_n (pc1 := 1) rfl rfl (TBof tbs_26 _ rfl) rfl ?_
  refine ev_iload_n (pc1 := 2) rfl (TBof tbs_26 _ rfl) rfl ?_
  refine ev_callvI (pc1 := 5) (as := [.int v1]) (r := []) (TBof tbs_26 _ rfl) rfl (lnkof mo_26 ln_2_78) rfl na_20 hS.lt0 (hS.sh.trans (by rw [mo_20])) (Nat.le_of_ble_eq_true rfl) H (fun x1 M1 h1 D1 H => ?_)
  refine ev_if (pc1 := 8) (t := 10) (TBof tbs_26 _ rfl) (by decide) rfl (fun c2 => ?_) (fun c2 => ?_)
  · replace H := H.1 c2
    refine ev_aload_n (pc1 := 11) rfl rfl (TBof tbs_26 _ rfl) rfl ?_
    refine ev_getP (pc1 := 14) (ci := 2) (k := 13) (a := (S + 7)) (TBof tbs_26 _ rfl) rfl (fldof mo_26 fl_2_30) hS.lt0 hS.sh nk_2_13 fp_2_13 hS.n28 hS.p13 ?_
    refine ev_iload_n (pc1 := 15) rfl (TBof tbs_26 _ rfl) rfl ?_
    refine ev_iaload (pc1 := 16) (n := 12) (TBof tbs_26 _ rfl) rfl (hS.lt (j := 7) (by decide)) hS.a7 H.1 ?_
    replace H := H.2
    refine ev_istore_n (pc1 := 17) (L1 := [(2, .int (M1 (S + 7) (v1.toNatClampNeg))), (0, .ref S), (1, .int v1)]) (by rw [ml_26]; decide) rfl (TBof tbs_26 _ rfl) rfl ?_
    refine ev_aload_n (pc1 := 18) rfl rfl (TBof tbs_26 _ rfl) rfl ?_
    refine ev_iload_n (pc1 := 19) rfl (TBof tbs_26 _ rfl) rfl ?_
    refine ev_callvI (pc1 := 22) (as := [.int (M1 (S + 7) (v1.toNatClampNeg))]) (r := []) (TBof tbs_26 _ rfl) rfl (lnkof mo_26 ln_2_65) rfl na_18 hS.lt0 (hS.sh.trans (by rw [mo_18])) (Nat.le_of_ble_eq_true rfl) H (fun x3 M3 h3 D3 H => ?_)
    refine ev_if (pc1 := 25) (t := 27) (TBof tbs_26 _ rfl) (by decide) rfl (fun c4 => ?_) (fun c4 => ?_)
    · replace H := H.1 c4
      refine ev_aload_n (pc1 := 28) rfl rfl (TBof tbs_26 _ rfl) rfl ?_
      refine ev_iload_n (pc1 := 29) rfl (TBof tbs_26 _ rfl) rfl ?_
      refine ev_callvI (pc1 := 32) (as := [.int (M1 (S + 7) (v1.toNatClampNeg))]) (r := []) (TBof tbs_26 _ rfl) rfl (lnkof mo_26 ln_2_69) rfl na_19 hS.lt0 (hS.sh.trans (by rw [mo_19])) (Nat.le_of_ble_eq_true rfl) H (fun x5 M5 h5 D5 H => ?_)
      refine ev_if (pc1 := 35) (t := 62) (TBof tbs_26 _ rfl) (by decide) rfl (fun c6 => ?_) (fun c6 => ?_)
      · replace H := H.1 c6
        refine ev_iconst (pc1 := 63) (x := 0) (by decide) (TBof tbs_26 _ rfl) rfl ?_
        exact ev_ireturn (TBof tbs_26 _ rfl) (retI_z rt_26 (Or.inl rfl)) ⟨_, rfl, H⟩
      · replace H := H.2 c6
        refine ev_aload_n (pc1 := 36) rfl rfl (TBof tbs_26 _ rfl) rfl ?_
        refine ev_iload_n (pc1 := 37) rfl (TBof tbs_26 _ rfl) rfl ?_
        refine ev_callvI (pc1 := 40) (as := [.int (M1 (S + 7) (v1.toNatClampNeg))]) (r := []) (TBof tbs_26 _ rfl) rfl (lnkof mo_26 ln_2_72) rfl na_21 hS.lt0 (hS.sh.trans (by rw [mo_21])) (Nat.le_of_ble_eq_true rfl) H (fun x7 M7 h7 D7 H => ?_)
        refine ev_if (pc1 := 43) (t := 62) (TBof tbs_26 _ rfl) (by decide) rfl (fun c8 => ?_) (fun c8 => ?_)
        · replace H := H.1 c8
          refine ev_iconst (pc1 := 63) (x := 0) (by decide) (TBof tbs_26 _ rfl) rfl ?_
          exact ev_ireturn (TBof tbs_26 _ rfl) (retI_z rt_26 (Or.inl rfl)) ⟨_, rfl, H⟩
        · replace H := H.2 c8
          refine ev_aload_n (pc1 := 44) rfl rfl (TBof tbs_26 _ rfl) rfl ?_
          refine ev_getP (pc1 := 47) (ci := 2) (k := 12) (a := (S + 6)) (TBof tbs_26 _ rfl) rfl (fldof mo_26 fl_2_27) hS.lt0 hS.sh nk_2_12 fp_2_12 hS.n28 hS.p12 ?_
          refine ev_iload_n (pc1 := 48) rfl (TBof tbs_26 _ rfl) rfl ?_
          refine ev_iaload (pc1 := 49) (n := 16) (TBof tbs_26 _ rfl) rfl (hS.lt (j := 6) (by decide)) hS.a6 H.1 ?_
          replace H := H.2
          refine ev_aload_n (pc1 := 50) rfl rfl (TBof tbs_26 _ rfl) rfl ?_
          refine ev_getP (pc1 := 53) (ci := 2) (k := 14) (a := (S + 8)) (TBof tbs_26 _ rfl) rfl (fldof mo_26 fl_2_33) hS.lt0 hS.sh nk_2_14 fp_2_14 hS.n28 hS.p14 ?_
          refine ev_iload_n (pc1 := 54) rfl (TBof tbs_26 _ rfl) rfl ?_
          refine ev_iaload (pc1 := 55) (n := 12) (TBof tbs_26 _ rfl) rfl (hS.lt (j := 8) (by decide)) hS.a8 H.1 ?_
          replace H := H.2
          refine ev_icmp (pc1 := 58) (t := 62) (TBof tbs_26 _ rfl) (by decide) rfl (fun c9 => ?_) (fun c9 => ?_)
          · replace H := H.1 c9
            refine ev_iconst (pc1 := 63) (x := 0) (by decide) (TBof tbs_26 _ rfl) rfl ?_
            exact ev_ireturn (TBof tbs_26 _ rfl) (retI_z rt_26 (Or.inl rfl)) ⟨_, rfl, H⟩
          · replace H := H.2 c9
            refine ev_iconst (pc1 := 59) (x := 1) (by decide) (TBof tbs_26 _ rfl) rfl ?_
            refine ev_goto (pc1 := 63) (TBof tbs_26 _ rfl) (by decide) ?_
            exact ev_ireturn (TBof tbs_26 _ rfl) (retI_z rt_26 (Or.inr rfl)) ⟨_, rfl, H⟩
    · replace H := H.2 c4
      refine ev_iconst (pc1 := 26) (x := 1) (by decide) (TBof tbs_26 _ rfl) rfl ?_
      exact ev_ireturn (TBof tbs_26 _ rfl) (retI_z rt_26 (Or.inr rfl)) ⟨_, rfl, H⟩
  · replace H := H.2 c2
    refine ev_iconst (pc1 := 9) (x := 0) (by decide) (TBof tbs_26 _ rfl) rfl ?_
    exact ev_ireturn (TBof tbs_26 _ rfl) (retI_z rt_26 (Or.inl rfl)) ⟨_, rfl, H⟩
set_option maxRecDepth 100000 in
theorem R_X2_canSeal_0 {d : Nat} {S : Nat} {v1 : Int32} {M : Im} {h : Hm} {D : Dm} {Q : Int32 → Im → Hm → Dm → Prop} (hS : St S) (H : CI d nX3_isIn [.int (M S 5), .int v1] M h D (fun x1 M1 h1 D1 => ((x1 = 0) → (Q 0 M1 h1 D1)) ∧ (¬ (x1 = 0) → (CI d nX2_isOpen [.ref S, .int v1] M1 h1 D1 (fun x3 M3 h3 D3 => ((¬ (x3 = 0)) → (Q 0 M3 h3 D3)) ∧ (¬ (¬ (x3 = 0)) → (CI d nX2_isReached [.ref S, .int v1] M3 h3 D3 (fun x5 M5 h5 D5 => ((x5 = 0) → (Q 0 M5 h5 D5)) ∧ (¬ (x5 = 0) → (CI d nX2_isInHand [.ref S, .int 11] M5 h5 D5 (fun x7 M7 h7 D7 => ((x7 = 0) → (Q 0 M7 h7 D7)) ∧ (¬ (x7 = 0) → (Q 1 M7 h7 D7))))))))))))) : EvI d nX2_canSeal 0 [(0, .ref S), (1, .int v1)] [] M h D Q := by
  refine ev_aload_n (pc1 := 1) rfl rfl (TBof tbs_27 _ rfl) rfl ?_
  refine ev_getI (pc1 := 4) (ci := 2) (k := 5) (TBof tbs_27 _ rfl) rfl (fldof mo_27 fl_2_53) hS.lt0 hS.sh nk_2_5 fi_2_5 ?_
  refine ev_iload_n (pc1 := 5) rfl (TBof tbs_27 _ rfl) rfl ?_
  refine ev_callsI (pc1 := 8) (as := [.int (M S 5), .int v1]) (r := []) (TBof tbs_27 _ rfl) rfl (lnkof mo_27 ln_2_84) (Or.inr rfl) rfl na_61 (Nat.le_of_ble_eq_true rfl) H (fun x1 M1 h1 D1 H => ?_)
  refine ev_if (pc1 := 11) (t := 40) (TBof tbs_27 _ rfl) (by decide) rfl (fun c2 => ?_) (fun c2 => ?_)
  · replace H := H.1 c2
    refine ev_iconst (pc1 := 41) (x := 0) (by decide) (TBof tbs_27 _ rfl) rfl ?_
    exact ev_ireturn (TBof tbs_27 _ rfl) (retI_z rt_27 (Or.inl rfl)) ⟨_, rfl, H⟩
  · replace H := H.2 c2
    refine ev_aload_n (pc1 := 12) rfl rfl (TBof tbs_27 _ rfl) rfl ?_
    refine ev_iload_n (pc1 := 13) rfl (TBof tbs_27 _ rfl) rfl ?_
    refine ev_callvI (pc1 := 16) (as := [.int v1]) (r := []) (TBof tbs_27 _ rfl) rfl (lnkof mo_27 ln_2_69) rfl na_19 hS.lt0 (hS.sh.trans (by rw [mo_19])) (Nat.le_of_ble_eq_true rfl) H (fun x3 M3 h3 D3 H => ?_)
    refine ev_if (pc1 := 19) (t := 40) (TBof tbs_27 _ rfl) (by decide) rfl (fun c4 => ?_) (fun c4 => ?_)
    · replace H := H.1 c4
      refine ev_iconst (pc1 := 41) (x := 0) (by decide) (TBof tbs_27 _ rfl) rfl ?_
      exact ev_ireturn (TBof tbs_27 _ rfl) (retI_z rt_27 (Or.inl rfl)) ⟨_, rfl, H⟩
    · replace H := H.2 c4
      refine ev_aload_n (pc1 := 20) rfl rfl (TBof tbs_27 _ rfl) rfl ?_
      refine ev_iload_n (pc1 := 21) rfl (TBof tbs_27 _ rfl) rfl ?_
      refine ev_callvI (pc1 := 24) (as := [.int v1]) (r := []) (TBof tbs_27 _ rfl) rfl (lnkof mo_27 ln_2_72) rfl na_21 hS.lt0 (hS.sh.trans (by rw [mo_21])) (Nat.le_of_ble_eq_true rfl) H (fun x5 M5 h5 D5 H => ?_)
      refine ev_if (pc1 := 27) (t := 40) (TBof tbs_27 _ rfl) (by decide) rfl (fun c6 => ?_) (fun c6 => ?_)
      · replace H := H.1 c6
        refine ev_iconst (pc1 := 41) (x := 0) (by decide) (TBof tbs_27 _ rfl) rfl ?_
        exact ev_ireturn (TBof tbs_27 _ rfl) (retI_z rt_27 (Or.inl rfl)) ⟨_, rfl, H⟩
      · replace H := H.2 c6
        refine ev_aload_n (pc1 := 28) rfl rfl (TBof tbs_27 _ rfl) rfl ?_
        refine ev_bipush (pc1 := 30) (x := 11) (by decide) (TBof tbs_27 _ rfl) rfl ?_
        refine ev_callvI (pc1 := 33) (as := [.int 11]) (r := []) (TBof tbs_27 _ rfl) rfl (lnkof mo_27 ln_2_78) rfl na_20 hS.lt0 (hS.sh.trans (by rw [mo_20])) (Nat.le_of_ble_eq_true rfl) H (fun x7 M7 h7 D7 H => ?_)
        refine ev_if (pc1 := 36) (t := 40) (TBof tbs_27 _ rfl) (by decide) rfl (fun c8 => ?_) (fun c8 => ?_)
        · replace H := H.1 c8
          refine ev_iconst (pc1 := 41) (x := 0) (by decide) (TBof tbs_27 _ rfl) rfl ?_
          exact ev_ireturn (TBof tbs_27 _ rfl) (retI_z rt_27 (Or.inl rfl)) ⟨_, rfl, H⟩
        · replace H := H.2 c8
          refine ev_iconst (pc1 := 37) (x := 1) (by decide) (TBof tbs_27 _ rfl) rfl ?_
          refine ev_goto (pc1 := 41) (TBof tbs_27 _ rfl) (by decide) ?_
          exact ev_ireturn (TBof tbs_27 _ rfl) (retI_z rt_27 (Or.inr rfl)) ⟨_, rfl, H⟩
set_option maxRecDepth 100000 in
theorem R_X2_setOpen_0 {d : Nat} {S : Nat} {v1 : Int32} {M : Im} {h : Hm} {D : Dm} {Q : Im → Hm → Dm → Prop} (hS : St S) (H : CI d nX3_bit [.int v1] M h D (fun x1 M1 h1 D1 => vp_in v1 16 ∧ (((¬ (((up2 M1 S 4 ((M S 4) ||| x1)) (S + 2) (v1.toNatClampNeg)) = 3)) → (Q (up2 M1 S 4 ((M S 4) ||| x1)) h1 D1)) ∧ (¬ (¬ (((up2 M1 S 4 ((M S 4) ||| x1)) (S + 2) (v1.toNatClampNeg)) = 3)) → (CI d nX3_bit [.int v1] (up2 M1 S 4 ((M S 4) ||| x1)) h1 D1 (fun x3 M3 h3 D3 => Q (up2 M3 S 5 (((up2 M1 S 4 ((M S 4) ||| x1)) S 5) ||| x3)) h3 D3)))))) : EvV d nX2_setOpen 0 [(0, .ref S), (1, .int v1)] [] M h D Q := by
  refine ev_aload_n (pc1 := 1) rfl rfl (TBof tbs_28 _ rfl) rfl ?_
  refine ev_dup (pc1 := 2) rfl (TBof tbs_28 _ rfl) rfl ?_
  refine ev_getI (pc1 := 5) (ci := 2) (k := 4) (TBof tbs_28 _ rfl) rfl (fldof mo_28 fl_2_50) hS.lt0 hS.sh nk_2_4 fi_2_4 ?_
  refine ev_iload_n (pc1 := 6) rfl (TBof tbs_28 _ rfl) rfl ?_
  refine ev_callsI (pc1 := 9) (as := [.int v1]) (r := [.int (M S 4), .ref S]) (TBof tbs_28 _ rfl) rfl (lnkof mo_28 ln_2_88) (Or.inr rfl) rfl na_60 (Nat.le_of_ble_eq_true rfl) H (fun x1 M1 h1 D1 H => ?_)
  refine ev_ior (pc1 := 10) (TBof tbs_28 _ rfl) rfl ?_
  refine ev_putI (pc1 := 13) (ci := 2) (k := 4) (TBof tbs_28 _ rfl) rfl (fldof mo_28 fl_2_50) hS.lt0 hS.sh nk_2_4 rfl rfl ?_
  refine ev_aload_n (pc1 := 14) rfl rfl (TBof tbs_28 _ rfl) rfl ?_
  refine ev_getP (pc1 := 17) (ci := 2) (k := 8) (a := (S + 2)) (TBof tbs_28 _ rfl) rfl (fldof mo_28 fl_2_15) hS.lt0 hS.sh nk_2_8 fp_2_8 hS.n28 hS.p8 ?_
  refine ev_iload_n (pc1 := 18) rfl (TBof tbs_28 _ rfl) rfl ?_
  refine ev_iaload (pc1 := 19) (n := 16) (TBof tbs_28 _ rfl) rfl (hS.lt (j := 2) (by decide)) hS.a2 H.1 ?_
  replace H := H.2
  refine ev_iconst (pc1 := 20) (x := 3) (by decide) (TBof tbs_28 _ rfl) rfl ?_
  refine ev_icmp (pc1 := 23) (t := 36) (TBof tbs_28 _ rfl) (by decide) rfl (fun c2 => ?_) (fun c2 => ?_)
  · replace H := H.1 c2
    exact ev_return (TBof tbs_28 _ rfl) rt_28 ⟨rfl, H⟩
  · replace H := H.2 c2
    refine ev_aload_n (pc1 := 24) rfl rfl (TBof tbs_28 _ rfl) rfl ?_
    refine ev_dup (pc1 := 25) rfl (TBof tbs_28 _ rfl) rfl ?_
    refine ev_getI (pc1 := 28) (ci := 2) (k := 5) (TBof tbs_28 _ rfl) rfl (fldof mo_28 fl_2_53) hS.lt0 hS.sh nk_2_5 fi_2_5 ?_
    refine ev_iload_n (pc1 := 29) rfl (TBof tbs_28 _ rfl) rfl ?_
    refine ev_callsI (pc1 := 32) (as := [.int v1]) (r := [.int ((up2 M1 S 4 ((M S 4) ||| x1)) S 5), .ref S]) (TBof tbs_28 _ rfl) rfl (lnkof mo_28 ln_2_88) (Or.inr rfl) rfl na_60 (Nat.le_of_ble_eq_true rfl) H (fun x3 M3 h3 D3 H => ?_)
    refine ev_ior (pc1 := 33) (TBof tbs_28 _ rfl) rfl ?_
    refine ev_putI (pc1 := 36) (ci := 2) (k := 5) (TBof tbs_28 _ rfl) rfl (fldof mo_28 fl_2_53) hS.lt0 hS.sh nk_2_5 rfl rfl ?_
    exact ev_return (TBof tbs_28 _ rfl) rt_28 ⟨rfl, H⟩
set_option maxRecDepth 100000 in
theorem R_X2_addStep_0 {d : Nat} {S : Nat} {v1 : Int32} {M : Im} {h : Hm} {D : Dm} {Q : Im → Hm → Dm → Prop} (hS : St S) (H : Q (up2 (up2 M S 2 ((M S 2) + 1)) S 3 (((up2 M S 2 ((M S 2) + 1)) S 3) + v1)) h D) : EvV d nX2_addStep 0 [(0, .ref S), (1, .int v1)] [] M h D Q := by
  refine ev_aload_n (pc1 := 1) rfl rfl (TBof tbs_29 _ rfl) rfl ?_
  refine ev_dup (pc1 := 2) rfl (TBof tbs_29 _ rfl) rfl ?_
  refine ev_getI (pc1 := 5) (ci := 2) (k := 2) (TBof tbs_29 _ rfl) rfl (fldof mo_29 fl_2_44) hS.lt0 hS.sh nk_2_2 fi_2_2 ?_
  refine ev_iconst (pc1 := 6) (x := 1) (by decide) (TBof tbs_29 _ rfl) rfl ?_
  refine ev_iadd (pc1 := 7) (TBof tbs_29 _ rfl) rfl ?_
  refine ev_putI (pc1 := 10) (ci := 2) (k := 2) (TBof tbs_29 _ rfl) rfl (fldof mo_29 fl_2_44) hS.lt0 hS.sh nk_2_2 rfl rfl ?_
  refine ev_aload_n (pc1 := 11) rfl rfl (TBof tbs_29 _ rfl) rfl ?_
  refine ev_dup (pc1 := 12) rfl (TBof tbs_29 _ rfl) rfl ?_
  refine ev_getI (pc1 := 15) (ci := 2) (k := 3) (TBof tbs_29 _ rfl) rfl (fldof mo_29 fl_2_47) hS.lt0 hS.sh nk_2_3 fi_2_3 ?_
  refine ev_iload_n (pc1 := 16) rfl (TBof tbs_29 _ rfl) rfl ?_
  refine ev_iadd (pc1 := 17) (TBof tbs_29 _ rfl) rfl ?_
  refine ev_putI (pc1 := 20) (ci := 2) (k := 3) (TBof tbs_29 _ rfl) rfl (fldof mo_29 fl_2_47) hS.lt0 hS.sh nk_2_3 rfl rfl ?_
  exact ev_return (TBof tbs_29 _ rfl) rt_29 ⟨rfl, H⟩
set_option maxRecDepth 100000 in
theorem R_X2_makeAllSteps_0 {d : Nat} {S : Nat} {M : Im} {h : Hm} {D : Dm} {Q : Im → Hm → Dm → Prop} (hS : St S) (H : EvV d nX2_makeAllSteps 4 [(0, .ref S), (1, .int 1), (2, .int 0)] [] M h D Q) : EvV d nX2_makeAllSteps 0 [(0, .ref S)] [] M h D Q := by
  refine ev_iconst (pc1 := 1) (x := 1) (by decide) (TBof tbs_30 _ rfl) rfl ?_
  refine ev_istore_n (pc1 := 2) (L1 := [(1, .int 1), (0, .ref S)]) (by rw [ml_30]; decide) rfl (TBof tbs_30 _ rfl) rfl ?_
  refine ev_iconst (pc1 := 3) (x := 0) (by decide) (TBof tbs_30 _ rfl) rfl ?_
  refine ev_istore_n (pc1 := 4) (L1 := [(2, .int 0), (1, .int 1), (0, .ref S)]) (by rw [ml_30]; decide) rfl (TBof tbs_30 _ rfl) rfl ?_
  exact ev_le [2, 1, 0] rfl rfl H
set_option maxRecDepth 100000 in
theorem R_X2_makeAllSteps_4 {d : Nat} {S : Nat} {v1 v2 : Int32} {M : Im} {h : Hm} {D : Dm} {Q : Im → Hm → Dm → Prop} (hS : St S) (H : ((76 < v2) → (Q M h D)) ∧ (¬ (76 < v2) → (((v1 = 0) → (Q M h D)) ∧ (¬ (v1 = 0) → (CI d nX2_makeSteps [.ref S] M h D (fun x3 M3 h3 D3 => EvV d nX2_makeAllSteps 4 [(0, .ref S), (1, .int x3), (2, .int (v2 + 1))] [] M3 h3 D3 Q)))))) : EvV d nX2_makeAllSteps 4 [(0, .ref S), (1, .int v1), (2, .int v2)] [] M h D Q := by
  refine ev_iload_n (pc1 := 5) rfl (TBof tbs_30 _ rfl) rfl ?_
  refine ev_bipush (pc1 := 7) (x := 76) (by decide) (TBof tbs_30 _ rfl) rfl ?_
  refine ev_icmp (pc1 := 10) (t := 25) (TBof tbs_30 _ rfl) (by decide) rfl (fun c1 => ?_) (fun c1 => ?_)
  · replace H := H.1 c1
    exact ev_return (TBof tbs_30 _ rfl) rt_30 ⟨rfl, H⟩
  · replace H := H.2 c1
    refine ev_iload_n (pc1 := 11) rfl (TBof tbs_30 _ rfl) rfl ?_
    refine ev_if (pc1 := 14) (t := 25) (TBof tbs_30 _ rfl) (by decide) rfl (fun c2 => ?_) (fun c2 => ?_)
    · replace H := H.1 c2
      exact ev_return (TBof tbs_30 _ rfl) rt_30 ⟨rfl, H⟩
    · replace H := H.2 c2
      refine ev_aload_n (pc1 := 15) rfl rfl (TBof tbs_30 _ rfl) rfl ?_
      refine ev_callvI (pc1 := 18) (as := []) (r := []) (TBof tbs_30 _ rfl) rfl (lnkof mo_30 ln_2_92) rfl na_31 hS.lt0 (hS.sh.trans (by rw [mo_31])) (Nat.le_of_ble_eq_true rfl) H (fun x3 M3 h3 D3 H => ?_)
      refine ev_istore_n (pc1 := 19) (L1 := [(1, .int x3), (0, .ref S), (2, .int v2)]) (by rw [ml_30]; decide) rfl (TBof tbs_30 _ rfl) rfl ?_
      refine ev_iinc (pc1 := 22) (n := 2) (c := 1) (x := v2) (cc := 1) (L1 := [(2, .int (v2 + 1)), (1, .int x3), (0, .ref S)]) rfl (by rw [ml_30]; decide) (by decide) rfl (TBof tbs_30 _ rfl) rfl ?_
      refine ev_goto (pc1 := 4) (TBof tbs_30 _ rfl) (by decide) ?_
      exact ev_le [2, 1, 0] rfl rfl H
set_option maxRecDepth 100000 in
theorem R_X2_makeSteps_0 {d : Nat} {S : Nat} {M : Im} {h : Hm} {D : Dm} {Q : Int32 → Im → Hm → Dm → Prop} (hS : St S) (H : EvI d nX2_makeSteps 4 [(0, .ref S), (1, .int 0), (2, .int 0)] [] M h D Q) : EvI d nX2_makeSteps 0 [(0, .ref S)] [] M h D Q := by
  refine ev_iconst (pc1 := 1) (x := 0) (by decide) (TBof tbs_31 _ rfl) rfl ?_
  refine ev_istore_n (pc1 := 2) (L1 := [(1, .int 0), (0, .ref S)]) (by rw [ml_31]; decide) rfl (TBof tbs_31 _ rfl) rfl ?_
  refine ev_iconst (pc1 := 3) (x := 0) (by decide) (TBof tbs_31 _ rfl) rfl ?_
  refine ev_istore_n (pc1 := 4) (L1 := [(2, .int 0), (1, .int 0), (0, .ref S)]) (by rw [ml_31]; decide) rfl (TBof tbs_31 _ rfl) rfl ?_
  exact ev_le [2, 1, 0] rfl rfl H
set_option maxRecDepth 100000 in
theorem R_X2_makeSteps_4 {d : Nat} {S : Nat} {v1 v2 : Int32} {M : Im} {h : Hm} {D : Dm} {Q : Int32 → Im → Hm → Dm → Prop} (hS : St S) (H : (((M S 0) ≤ v2) → (EvI d nX2_makeSteps 55 [(0, .ref S), (1, .int v1), (2, .int 0)] [] M h D Q)) ∧ (¬ ((M S 0) ≤ v2) → (CI d nX2_canOpen [.ref S, .int v2] M h D (fun x2 M2 h2 D2 => ((x2 = 0) → (EvI d nX2_makeSteps 27 [(0, .ref S), (1, .int v1), (2, .int v2)] [] M2 h2 D2 Q)) ∧ (¬ (x2 = 0) → (CV d nX2_setOpen [.ref S, .int v2] M2 h2 D2 (fun M4 h4 D4 => EvI d nX2_makeSteps 27 [(0, .ref S), (1, .int 1), (2, .int v2)] [] M4 h4 D4 Q))))))) : EvI d nX2_makeSteps 4 [(0, .ref S), (1, .int v1), (2, .int v2)] [] M h D Q := by
  refine ev_iload_n (pc1 := 5) rfl (TBof tbs_31 _ rfl) rfl ?_
  refine ev_aload_n (pc1 := 6) rfl rfl (TBof tbs_31 _ rfl) rfl ?_
  refine ev_getI (pc1 := 9) (ci := 2) (k := 0) (TBof tbs_31 _ rfl) rfl (fldof mo_31 fl_2_36) hS.lt0 hS.sh nk_2_0 fi_2_0 ?_
  refine ev_icmp (pc1 := 12) (t := 53) (TBof tbs_31 _ rfl) (by decide) rfl (fun c1 => ?_) (fun c1 => ?_)
  · replace H := H.1 c1
    refine ev_iconst (pc1 := 54) (x := 0) (by decide) (TBof tbs_31 _ rfl) rfl ?_
    refine ev_istore_n (pc1 := 55) (L1 := [(2, .int 0), (0, .ref S), (1, .int v1)]) (by rw [ml_31]; decide) rfl (TBof tbs_31 _ rfl) rfl ?_
    exact ev_le [1, 2, 0] rfl rfl H
  · replace H := H.2 c1
    refine ev_aload_n (pc1 := 13) rfl rfl (TBof tbs_31 _ rfl) rfl ?_
    refine ev_iload_n (pc1 := 14) rfl (TBof tbs_31 _ rfl) rfl ?_
    refine ev_callvI (pc1 := 17) (as := [.int v2]) (r := []) (TBof tbs_31 _ rfl) rfl (lnkof mo_31 ln_2_96) rfl na_22 hS.lt0 (hS.sh.trans (by rw [mo_22])) (Nat.le_of_ble_eq_true rfl) H (fun x2 M2 h2 D2 H => ?_)
    refine ev_if (pc1 := 20) (t := 27) (TBof tbs_31 _ rfl) (by decide) rfl (fun c3 => ?_) (fun c3 => ?_)
    · replace H := H.1 c3
      exact ev_le [0, 1, 2] rfl rfl H
    · replace H := H.2 c3
      refine ev_aload_n (pc1 := 21) rfl rfl (TBof tbs_31 _ rfl) rfl ?_
      refine ev_iload_n (pc1 := 22) rfl (TBof tbs_31 _ rfl) rfl ?_
      refine ev_callvV (pc1 := 25) (as := [.int v2]) (r := []) (TBof tbs_31 _ rfl) rfl (lnkof mo_31 ln_2_99) rfl na_28 hS.lt0 (hS.sh.trans (by rw [mo_28])) (Nat.le_of_ble_eq_true rfl) H (fun M4 h4 D4 H => ?_)
      refine ev_iconst (pc1 := 26) (x := 1) (by decide) (TBof tbs_31 _ rfl) rfl ?_
      refine ev_istore_n (pc1 := 27) (L1 := [(1, .int 1), (0, .ref S), (2, .int v2)]) (by rw [ml_31]; decide) rfl (TBof tbs_31 _ rfl) rfl ?_
      exact ev_le [1, 0, 2] rfl rfl H
set_option maxRecDepth 100000 in
theorem R_X2_makeSteps_27 {d : Nat} {S : Nat} {v1 v2 : Int32} {M : Im} {h : Hm} {D : Dm} {Q : Int32 → Im → Hm → Dm → Prop} (hS : St S) (H : CI d nX2_canLift [.ref S, .int v2] M h D (fun x1 M1 h1 D1 => ((x1 = 0) → (EvI d nX2_makeSteps 4 [(0, .ref S), (1, .int v1), (2, .int (v2 + 1))] [] M1 h1 D1 Q)) ∧ (¬ (x1 = 0) → (vp_in v2 16 ∧ (vp_in v2 16 ∧ (EvI d nX2_makeSteps 4 [(0, .ref S), (1, .int 1), (2, .int (v2 + 1))] [] (up2 M1 (S + 6) (v2.toNatClampNeg) ((M1 (S + 6) (v2.toNatClampNeg)) + 1)) h1 D1 Q)))))) : EvI d nX2_makeSteps 27 [(0, .ref S), (1, .int v1), (2, .int v2)] [] M h D Q := by
  refine ev_aload_n (pc1 := 28) rfl rfl (TBof tbs_31 _ rfl) rfl ?_
  refine ev_iload_n (pc1 := 29) rfl (TBof tbs_31 _ rfl) rfl ?_
  refine ev_callvI (pc1 := 32) (as := [.int v2]) (r := []) (TBof tbs_31 _ rfl) rfl (lnkof mo_31 ln_2_103) rfl na_25 hS.lt0 (hS.sh.trans (by rw [mo_25])) (Nat.le_of_ble_eq_true rfl) H (fun x1 M1 h1 D1 H => ?_)
  refine ev_if (pc1 := 35) (t := 47) (TBof tbs_31 _ rfl) (by decide) rfl (fun c2 => ?_) (fun c2 => ?_)
  · replace H := H.1 c2
    refine ev_iinc (pc1 := 50) (n := 2) (c := 1) (x := v2) (cc := 1) (L1 := [(2, .int (v2 + 1)), (0, .ref S), (1, .int v1)]) rfl (by rw [ml_31]; decide) (by decide) rfl (TBof tbs_31 _ rfl) rfl ?_
    refine ev_goto (pc1 := 4) (TBof tbs_31 _ rfl) (by decide) ?_
    exact ev_le [1, 2, 0] rfl rfl H
  · replace H := H.2 c2
    refine ev_aload_n (pc1 := 36) rfl rfl (TBof tbs_31 _ rfl) rfl ?_
    refine ev_getP (pc1 := 39) (ci := 2) (k := 12) (a := (S + 6)) (TBof tbs_31 _ rfl) rfl (fldof mo_31 fl_2_27) hS.lt0 hS.sh nk_2_12 fp_2_12 hS.n28 hS.p12 ?_
    refine ev_iload_n (pc1 := 40) rfl (TBof tbs_31 _ rfl) rfl ?_
    refine ev_dup2 (pc1 := 41) rfl rfl (TBof tbs_31 _ rfl) rfl ?_
    refine ev_iaload (pc1 := 42) (n := 16) (TBof tbs_31 _ rfl) rfl (hS.lt (j := 6) (by decide)) hS.a6 H.1 ?_
    replace H := H.2
    refine ev_iconst (pc1 := 43) (x := 1) (by decide) (TBof tbs_31 _ rfl) rfl ?_
    refine ev_iadd (pc1 := 44) (TBof tbs_31 _ rfl) rfl ?_
    refine ev_iastore (pc1 := 45) (n := 16) (TBof tbs_31 _ rfl) rfl (hS.lt (j := 6) (by decide)) hS.a6 H.1 ?_
    replace H := H.2
    refine ev_iconst (pc1 := 46) (x := 1) (by decide) (TBof tbs_31 _ rfl) rfl ?_
    refine ev_istore_n (pc1 := 47) (L1 := [(1, .int 1), (0, .ref S), (2, .int v2)]) (by rw [ml_31]; decide) rfl (TBof tbs_31 _ rfl) rfl ?_
    refine ev_iinc (pc1 := 50) (n := 2) (c := 1) (x := v2) (cc := 1) (L1 := [(2, .int (v2 + 1)), (1, .int 1), (0, .ref S)]) rfl (by rw [ml_31]; decide) (by decide) rfl (TBof tbs_31 _ rfl) rfl ?_
    refine ev_goto (pc1 := 4) (TBof tbs_31 _ rfl) (by decide) ?_
    exact ev_le [2, 1, 0] rfl rfl H
set_option maxRecDepth 100000 in
theorem R_X2_makeSteps_55 {d : Nat} {S : Nat} {v1 v2 : Int32} {M : Im} {h : Hm} {D : Dm} {Q : Int32 → Im → Hm → Dm → Prop} (hS : St S) (H : ((12 ≤ v2) → ((v1 = 0 ∨ v1 = 1) ∧ Q v1 M h D)) ∧ (¬ (12 ≤ v2) → (CI d nX2_canTake [.ref S, .int v2] M h D (fun x2 M2 h2 D2 => ((x2 = 0) → (EvI d nX2_makeSteps 55 [(0, .ref S), (1, .int v1), (2, .int (v2 + 1))] [] M2 h2 D2 Q)) ∧ (¬ (x2 = 0) → (CI d nX3_bit [.int v2] M2 h2 D2 (fun x4 M4 h4 D4 => EvI d nX2_makeSteps 55 [(0, .ref S), (1, .int 1), (2, .int (v2 + 1))] [] (up2 M4 S 6 ((M2 S 6) ||| x4)) h4 D4 Q))))))) : EvI d nX2_makeSteps 55 [(0, .ref S), (1, .int v1), (2, .int v2)] [] M h D Q := by
  refine ev_iload_n (pc1 := 56) rfl (TBof tbs_31 _ rfl) rfl ?_
  refine ev_bipush (pc1 := 58) (x := 12) (by decide) (TBof tbs_31 _ rfl) rfl ?_
  refine ev_icmp (pc1 := 61) (t := 90) (TBof tbs_31 _ rfl) (by decide) rfl (fun c1 => ?_) (fun c1 => ?_)
  · replace H := H.1 c1
    refine ev_iload_n (pc1 := 91) rfl (TBof tbs_31 _ rfl) rfl ?_
    exact ev_ireturn (TBof tbs_31 _ rfl) (retI_z rt_31 H.1) ⟨_, rfl, H.2⟩
  · replace H := H.2 c1
    refine ev_aload_n (pc1 := 62) rfl rfl (TBof tbs_31 _ rfl) rfl ?_
    refine ev_iload_n (pc1 := 63) rfl (TBof tbs_31 _ rfl) rfl ?_
    refine ev_callvI (pc1 := 66) (as := [.int v2]) (r := []) (TBof tbs_31 _ rfl) rfl (lnkof mo_31 ln_2_106) rfl na_26 hS.lt0 (hS.sh.trans (by rw [mo_26])) (Nat.le_of_ble_eq_true rfl) H (fun x2 M2 h2 D2 H => ?_)
    refine ev_if (pc1 := 69) (t := 84) (TBof tbs_31 _ rfl) (by decide) rfl (fun c3 => ?_) (fun c3 => ?_)
    · replace H := H.1 c3
      refine ev_iinc (pc1 := 87) (n := 2) (c := 1) (x := v2) (cc := 1) (L1 := [(2, .int (v2 + 1)), (0, .ref S), (1, .int v1)]) rfl (by rw [ml_31]; decide) (by decide) rfl (TBof tbs_31 _ rfl) rfl ?_
      refine ev_goto (pc1 := 55) (TBof tbs_31 _ rfl) (by decide) ?_
      exact ev_le [1, 2, 0] rfl rfl H
    · replace H := H.2 c3
      refine ev_aload_n (pc1 := 70) rfl rfl (TBof tbs_31 _ rfl) rfl ?_
      refine ev_dup (pc1 := 71) rfl (TBof tbs_31 _ rfl) rfl ?_
      refine ev_getI (pc1 := 74) (ci := 2) (k := 6) (TBof tbs_31 _ rfl) rfl (fldof mo_31 fl_2_56) hS.lt0 hS.sh nk_2_6 fi_2_6 ?_
      refine ev_iload_n (pc1 := 75) rfl (TBof tbs_31 _ rfl) rfl ?_
      refine ev_callsI (pc1 := 78) (as := [.int v2]) (r := [.int (M2 S 6), .ref S]) (TBof tbs_31 _ rfl) rfl (lnkof mo_31 ln_2_88) (Or.inr rfl) rfl na_60 (Nat.le_of_ble_eq_true rfl) H (fun x4 M4 h4 D4 H => ?_)
      refine ev_ior (pc1 := 79) (TBof tbs_31 _ rfl) rfl ?_
      refine ev_putI (pc1 := 82) (ci := 2) (k := 6) (TBof tbs_31 _ rfl) rfl (fldof mo_31 fl_2_56) hS.lt0 hS.sh nk_2_6 rfl rfl ?_
      refine ev_iconst (pc1 := 83) (x := 1) (by decide) (TBof tbs_31 _ rfl) rfl ?_
      refine ev_istore_n (pc1 := 84) (L1 := [(1, .int 1), (0, .ref S), (2, .int v2)]) (by rw [ml_31]; decide) rfl (TBof tbs_31 _ rfl) rfl ?_
      refine ev_iinc (pc1 := 87) (n := 2) (c := 1) (x := v2) (cc := 1) (L1 := [(2, .int (v2 + 1)), (1, .int 1), (0, .ref S)]) rfl (by rw [ml_31]; decide) (by decide) rfl (TBof tbs_31 _ rfl) rfl ?_
      refine ev_goto (pc1 := 55) (TBof tbs_31 _ rfl) (by decide) ?_
      exact ev_le [2, 1, 0] rfl rfl H
set_option maxRecDepth 100000 in
theorem R_X2_hasAllHolders_0 {d : Nat} {S : Nat} {M : Im} {h : Hm} {D : Dm} {Q : Int32 → Im → Hm → Dm → Prop} (hS : St S) (H : EvI d nX2_hasAllHolders 2 [(0, .ref S), (1, .int 0)] [] M h D Q) : EvI d nX2_hasAllHolders 0 [(0, .ref S)] [] M h D Q := by
  refine ev_iconst (pc1 := 1) (x := 0) (by decide) (TBof tbs_32 _ rfl) rfl ?_
  refine ev_istore_n (pc1 := 2) (L1 := [(1, .int 0), (0, .ref S)]) (by rw [ml_32]; decide) rfl (TBof tbs_32 _ rfl) rfl ?_
  exact ev_le [1, 0] rfl rfl H
set_option maxRecDepth 100000 in
theorem R_X2_hasAllHolders_2 {d : Nat} {S : Nat} {v1 : Int32} {M : Im} {h : Hm} {D : Dm} {Q : Int32 → Im → Hm → Dm → Prop} (hS : St S) (H : (((M S 0) ≤ v1) → (Q 1 M h D)) ∧ (¬ ((M S 0) ≤ v1) → (vp_in v1 16 ∧ (((¬ ((M (S + 2) (v1.toNatClampNeg)) = 2)) → (EvI d nX2_hasAllHolders 2 [(0, .ref S), (1, .int (v1 + 1))] [] M h D Q)) ∧ (¬ (¬ ((M (S + 2) (v1.toNatClampNeg)) = 2)) → (vp_in v1 16 ∧ (CI d nX2_isThere [.ref S, .int (M (S + 3) (v1.toNatClampNeg))] M h D (fun x3 M3 h3 D3 => ((¬ (x3 = 0)) → (EvI d nX2_hasAllHolders 2 [(0, .ref S), (1, .int (v1 + 1))] [] M3 h3 D3 Q)) ∧ (¬ (¬ (x3 = 0)) → (Q 0 M3 h3 D3)))))))))) : EvI d nX2_hasAllHolders 2 [(0, .ref S), (1, .int v1)] [] M h D Q := by
  refine ev_iload_n (pc1 := 3) rfl (TBof tbs_32 _ rfl) rfl ?_
  refine ev_aload_n (pc1 := 4) rfl rfl (TBof tbs_32 _ rfl) rfl ?_
  refine ev_getI (pc1 := 7) (ci := 2) (k := 0) (TBof tbs_32 _ rfl) rfl (fldof mo_32 fl_2_36) hS.lt0 hS.sh nk_2_0 fi_2_0 ?_
  refine ev_icmp (pc1 := 10) (t := 41) (TBof tbs_32 _ rfl) (by decide) rfl (fun c1 => ?_) (fun c1 => ?_)
  · replace H := H.1 c1
    refine ev_iconst (pc1 := 42) (x := 1) (by decide) (TBof tbs_32 _ rfl) rfl ?_
    exact ev_ireturn (TBof tbs_32 _ rfl) (retI_z rt_32 (Or.inr rfl)) ⟨_, rfl, H⟩
  · replace H := H.2 c1
    refine ev_aload_n (pc1 := 11) rfl rfl (TBof tbs_32 _ rfl) rfl ?_
    refine ev_getP (pc1 := 14) (ci := 2) (k := 8) (a := (S + 2)) (TBof tbs_32 _ rfl) rfl (fldof mo_32 fl_2_15) hS.lt0 hS.sh nk_2_8 fp_2_8 hS.n28 hS.p8 ?_
    refine ev_iload_n (pc1 := 15) rfl (TBof tbs_32 _ rfl) rfl ?_
    refine ev_iaload (pc1 := 16) (n := 16) (TBof tbs_32 _ rfl) rfl (hS.lt (j := 2) (by decide)) hS.a2 H.1 ?_
    replace H := H.2
    refine ev_iconst (pc1 := 17) (x := 2) (by decide) (TBof tbs_32 _ rfl) rfl ?_
    refine ev_icmp (pc1 := 20) (t := 35) (TBof tbs_32 _ rfl) (by decide) rfl (fun c2 => ?_) (fun c2 => ?_)
    · replace H := H.1 c2
      refine ev_iinc (pc1 := 38) (n := 1) (c := 1) (x := v1) (cc := 1) (L1 := [(1, .int (v1 + 1)), (0, .ref S)]) rfl (by rw [ml_32]; decide) (by decide) rfl (TBof tbs_32 _ rfl) rfl ?_
      refine ev_goto (pc1 := 2) (TBof tbs_32 _ rfl) (by decide) ?_
      exact ev_le [1, 0] rfl rfl H
    · replace H := H.2 c2
      refine ev_aload_n (pc1 := 21) rfl rfl (TBof tbs_32 _ rfl) rfl ?_
      refine ev_aload_n (pc1 := 22) rfl rfl (TBof tbs_32 _ rfl) rfl ?_
      refine ev_getP (pc1 := 25) (ci := 2) (k := 9) (a := (S + 3)) (TBof tbs_32 _ rfl) rfl (fldof mo_32 fl_2_18) hS.lt0 hS.sh nk_2_9 fp_2_9 hS.n28 hS.p9 ?_
      refine ev_iload_n (pc1 := 26) rfl (TBof tbs_32 _ rfl) rfl ?_
      refine ev_iaload (pc1 := 27) (n := 16) (TBof tbs_32 _ rfl) rfl (hS.lt (j := 3) (by decide)) hS.a3 H.1 ?_
      replace H := H.2
      refine ev_callvI (pc1 := 30) (as := [.int (M (S + 3) (v1.toNatClampNeg))]) (r := []) (TBof tbs_32 _ rfl) rfl (lnkof mo_32 ln_2_65) rfl na_18 hS.lt0 (hS.sh.trans (by rw [mo_18])) (Nat.le_of_ble_eq_true rfl) H (fun x3 M3 h3 D3 H => ?_)
      refine ev_if (pc1 := 33) (t := 35) (TBof tbs_32 _ rfl) (by decide) rfl (fun c4 => ?_) (fun c4 => ?_)
      · replace H := H.1 c4
        refine ev_iinc (pc1 := 38) (n := 1) (c := 1) (x := v1) (cc := 1) (L1 := [(1, .int (v1 + 1)), (0, .ref S)]) rfl (by rw [ml_32]; decide) (by decide) rfl (TBof tbs_32 _ rfl) rfl ?_
        refine ev_goto (pc1 := 2) (TBof tbs_32 _ rfl) (by decide) ?_
        exact ev_le [1, 0] rfl rfl H
      · replace H := H.2 c4
        refine ev_iconst (pc1 := 34) (x := 0) (by decide) (TBof tbs_32 _ rfl) rfl ?_
        exact ev_ireturn (TBof tbs_32 _ rfl) (retI_z rt_32 (Or.inl rfl)) ⟨_, rfl, H⟩
set_option maxRecDepth 100000 in
theorem R_X2_openableNow_0 {d : Nat} {S : Nat} {M : Im} {h : Hm} {D : Dm} {Q : Int32 → Im → Hm → Dm → Prop} (hS : St S) (H : EvI d nX2_openableNow 4 [(0, .ref S), (1, .int 0), (2, .int 0)] [] M h D Q) : EvI d nX2_openableNow 0 [(0, .ref S)] [] M h D Q := by
  refine ev_iconst (pc1 := 1) (x := 0) (by decide) (TBof tbs_33 _ rfl) rfl ?_
  refine ev_istore_n (pc1 := 2) (L1 := [(1, .int 0), (0, .ref S)]) (by rw [ml_33]; decide) rfl (TBof tbs_33 _ rfl) rfl ?_
  refine ev_iconst (pc1 := 3) (x := 0) (by decide) (TBof tbs_33 _ rfl) rfl ?_
  refine ev_istore_n (pc1 := 4) (L1 := [(2, .int 0), (1, .int 0), (0, .ref S)]) (by rw [ml_33]; decide) rfl (TBof tbs_33 _ rfl) rfl ?_
  exact ev_le [2, 1, 0] rfl rfl H
set_option maxRecDepth 100000 in
theorem R_X2_openableNow_4 {d : Nat} {S : Nat} {v1 v2 : Int32} {M : Im} {h : Hm} {D : Dm} {Q : Int32 → Im → Hm → Dm → Prop} (hS : St S) (H : (((M S 0) ≤ v2) → (Q v1 M h D)) ∧ (¬ ((M S 0) ≤ v2) → (CI d nX2_canOpen [.ref S, .int v2] M h D (fun x2 M2 h2 D2 => ((x2 = 0) → (EvI d nX2_openableNow 4 [(0, .ref S), (1, .int v1), (2, .int (v2 + 1))] [] M2 h2 D2 Q)) ∧ (¬ (x2 = 0) → (CI d nX3_bit [.int v2] M2 h2 D2 (fun x4 M4 h4 D4 => EvI d nX2_openableNow 4 [(0, .ref S), (1, .int (v1 ||| x4)), (2, .int (v2 + 1))] [] M4 h4 D4 Q))))))) : EvI d nX2_openableNow 4 [(0, .ref S), (1, .int v1), (2, .int v2)] [] M h D Q := by
  refine ev_iload_n (pc1 := 5) rfl (TBof tbs_33 _ rfl) rfl ?_
  refine ev_aload_n (pc1 := 6) rfl rfl (TBof tbs_33 _ rfl) rfl ?_
  refine ev_getI (pc1 := 9) (ci := 2) (k := 0) (TBof tbs_33 _ rfl) rfl (fldof mo_33 fl_2_36) hS.lt0 hS.sh nk_2_0 fi_2_0 ?_
  refine ev_icmp (pc1 := 12) (t := 33) (TBof tbs_33 _ rfl) (by decide) rfl (fun c1 => ?_) (fun c1 => ?_)
  · replace H := H.1 c1
    refine ev_iload_n (pc1 := 34) rfl (TBof tbs_33 _ rfl) rfl ?_
    exact ev_ireturn (TBof tbs_33 _ rfl) (retI_i rt_33) ⟨_, rfl, H⟩
  · replace H := H.2 c1
    refine ev_aload_n (pc1 := 13) rfl rfl (TBof tbs_33 _ rfl) rfl ?_
    refine ev_iload_n (pc1 := 14) rfl (TBof tbs_33 _ rfl) rfl ?_
    refine ev_callvI (pc1 := 17) (as := [.int v2]) (r := []) (TBof tbs_33 _ rfl) rfl (lnkof mo_33 ln_2_96) rfl na_22 hS.lt0 (hS.sh.trans (by rw [mo_22])) (Nat.le_of_ble_eq_true rfl) H (fun x2 M2 h2 D2 H => ?_)
    refine ev_if (pc1 := 20) (t := 27) (TBof tbs_33 _ rfl) (by decide) rfl (fun c3 => ?_) (fun c3 => ?_)
    · replace H := H.1 c3
      refine ev_iinc (pc1 := 30) (n := 2) (c := 1) (x := v2) (cc := 1) (L1 := [(2, .int (v2 + 1)), (0, .ref S), (1, .int v1)]) rfl (by rw [ml_33]; decide) (by decide) rfl (TBof tbs_33 _ rfl) rfl ?_
      refine ev_goto (pc1 := 4) (TBof tbs_33 _ rfl) (by decide) ?_
      exact ev_le [1, 2, 0] rfl rfl H
    · replace H := H.2 c3
      refine ev_iload_n (pc1 := 21) rfl (TBof tbs_33 _ rfl) rfl ?_
      refine ev_iload_n (pc1 := 22) rfl (TBof tbs_33 _ rfl) rfl ?_
      refine ev_callsI (pc1 := 25) (as := [.int v2]) (r := [.int v1]) (TBof tbs_33 _ rfl) rfl (lnkof mo_33 ln_2_88) (Or.inr rfl) rfl na_60 (Nat.le_of_ble_eq_true rfl) H (fun x4 M4 h4 D4 H => ?_)
      refine ev_ior (pc1 := 26) (TBof tbs_33 _ rfl) rfl ?_
      refine ev_istore_n (pc1 := 27) (L1 := [(1, .int (v1 ||| x4)), (0, .ref S), (2, .int v2)]) (by rw [ml_33]; decide) rfl (TBof tbs_33 _ rfl) rfl ?_
      refine ev_iinc (pc1 := 30) (n := 2) (c := 1) (x := v2) (cc := 1) (L1 := [(2, .int (v2 + 1)), (1, .int (v1 ||| x4)), (0, .ref S)]) rfl (by rw [ml_33]; decide) (by decide) rfl (TBof tbs_33 _ rfl) rfl ?_
      refine ev_goto (pc1 := 4) (TBof tbs_33 _ rfl) (by decide) ?_
      exact ev_le [2, 1, 0] rfl rfl H
set_option maxRecDepth 100000 in
theorem R_X2_countWholeSeals_0 {d : Nat} {S : Nat} {v1 : Int32} {M : Im} {h : Hm} {D : Dm} {Q : Int32 → Im → Hm → Dm → Prop} (hS : St S) (H : EvI d nX2_countWholeSeals 4 [(0, .ref S), (1, .int v1), (2, .int 0), (3, .int 0)] [] M h D Q) : EvI d nX2_countWholeSeals 0 [(0, .ref S), (1, .int v1)] [] M h D Q := by
  refine ev_iconst (pc1 := 1) (x := 0) (by decide) (TBof tbs_34 _ rfl) rfl ?_
  refine ev_istore_n (pc1 := 2) (L1 := [(2, .int 0), (0, .ref S), (1, .int v1)]) (by rw [ml_34]; decide) rfl (TBof tbs_34 _ rfl) rfl ?_
  refine ev_iconst (pc1 := 3) (x := 0) (by decide) (TBof tbs_34 _ rfl) rfl ?_
  refine ev_istore_n (pc1 := 4) (L1 := [(3, .int 0), (2, .int 0), (0, .ref S), (1, .int v1)]) (by rw [ml_34]; decide) rfl (TBof tbs_34 _ rfl) rfl ?_
  exact ev_le [2, 3, 1, 0] rfl rfl H
set_option maxRecDepth 100000 in
theorem R_X2_countWholeSeals_4 {d : Nat} {S : Nat} {v1 v2 v3 : Int32} {M : Im} {h : Hm} {D : Dm} {Q : Int32 → Im → Hm → Dm → Prop} (hS : St S) (H : (((M S 0) ≤ v3) → (Q v2 M h D)) ∧ (¬ ((M S 0) ≤ v3) → (CI d nX3_isIn [.int v1, .int v3] M h D (fun x2 M2 h2 D2 => ((x2 = 0) → (EvI d nX2_countWholeSeals 4 [(0, .ref S), (1, .int v1), (2, .int v2), (3, .int (v3 + 1))] [] M2 h2 D2 Q)) ∧ (¬ (x2 = 0) → (vp_in v3 16 ∧ (((¬ ((M2 (S + 2) (v3.toNatClampNeg)) = 3)) → (EvI d nX2_countWholeSeals 4 [(0, .ref S), (1, .int v1), (2, .int v2), (3, .int (v3 + 1))] [] M2 h2 D2 Q)) ∧ (¬ (¬ ((M2 (S + 2) (v3.toNatClampNeg)) = 3)) → (CI d nX3_isIn [.int (M2 S 5), .int v3] M2 h2 D2 (fun x5 M5 h5 D5 => ((¬ (x5 = 0)) → (EvI d nX2_countWholeSeals 4 [(0, .ref S), (1, .int v1), (2, .int v2), (3, .int (v3 + 1))] [] M5 h5 D5 Q)) ∧ (¬ (¬ (x5 = 0)) → (EvI d nX2_countWholeSeals 4 [(0, .ref S), (1, .int v1), (2, .int (v2 + 1)), (3, .int (v3 + 1))] [] M5 h5 D5 Q)))))))))))) : EvI d nX2_countWholeSeals 4 [(0, .ref S), (1, .int v1), (2, .int v2), (3, .int v3)] [] M h D Q := by
  refine ev_iload_n (pc1 := 5) rfl (TBof tbs_34 _ rfl) rfl ?_
  refine ev_aload_n (pc1 := 6) rfl rfl (TBof tbs_34 _ rfl) rfl ?_
  refine ev_getI (pc1 := 9) (ci := 2) (k := 0) (TBof tbs_34 _ rfl) rfl (fldof mo_34 fl_2_36) hS.lt0 hS.sh nk_2_0 fi_2_0 ?_
  refine ev_icmp (pc1 := 12) (t := 50) (TBof tbs_34 _ rfl) (by decide) rfl (fun c1 => ?_) (fun c1 => ?_)
  · replace H := H.1 c1
    refine ev_iload_n (pc1 := 51) rfl (TBof tbs_34 _ rfl) rfl ?_
    exact ev_ireturn (TBof tbs_34 _ rfl) (retI_i rt_34) ⟨_, rfl, H⟩
  · replace H := H.2 c1
    refine ev_iload_n (pc1 := 13) rfl (TBof tbs_34 _ rfl) rfl ?_
    refine ev_iload_n (pc1 := 14) rfl (TBof tbs_34 _ rfl) rfl ?_
    refine ev_callsI (pc1 := 17) (as := [.int v1, .int v3]) (r := []) (TBof tbs_34 _ rfl) rfl (lnkof mo_34 ln_2_84) (Or.inr rfl) rfl na_61 (Nat.le_of_ble_eq_true rfl) H (fun x2 M2 h2 D2 H => ?_)
    refine ev_if (pc1 := 20) (t := 44) (TBof tbs_34 _ rfl) (by decide) rfl (fun c3 => ?_) (fun c3 => ?_)
    · replace H := H.1 c3
      refine ev_iinc (pc1 := 47) (n := 3) (c := 1) (x := v3) (cc := 1) (L1 := [(3, .int (v3 + 1)), (0, .ref S), (1, .int v1), (2, .int v2)]) rfl (by rw [ml_34]; decide) (by decide) rfl (TBof tbs_34 _ rfl) rfl ?_
      refine ev_goto (pc1 := 4) (TBof tbs_34 _ rfl) (by decide) ?_
      exact ev_le [1, 2, 3, 0] rfl rfl H
    · replace H := H.2 c3
      refine ev_aload_n (pc1 := 21) rfl rfl (TBof tbs_34 _ rfl) rfl ?_
      refine ev_getP (pc1 := 24) (ci := 2) (k := 8) (a := (S + 2)) (TBof tbs_34 _ rfl) rfl (fldof mo_34 fl_2_15) hS.lt0 hS.sh nk_2_8 fp_2_8 hS.n28 hS.p8 ?_
      refine ev_iload_n (pc1 := 25) rfl (TBof tbs_34 _ rfl) rfl ?_
      refine ev_iaload (pc1 := 26) (n := 16) (TBof tbs_34 _ rfl) rfl (hS.lt (j := 2) (by decide)) hS.a2 H.1 ?_
      replace H := H.2
      refine ev_iconst (pc1 := 27) (x := 3) (by decide) (TBof tbs_34 _ rfl) rfl ?_
      refine ev_icmp (pc1 := 30) (t := 44) (TBof tbs_34 _ rfl) (by decide) rfl (fun c4 => ?_) (fun c4 => ?_)
      · replace H := H.1 c4
        refine ev_iinc (pc1 := 47) (n := 3) (c := 1) (x := v3) (cc := 1) (L1 := [(3, .int (v3 + 1)), (0, .ref S), (1, .int v1), (2, .int v2)]) rfl (by rw [ml_34]; decide) (by decide) rfl (TBof tbs_34 _ rfl) rfl ?_
        refine ev_goto (pc1 := 4) (TBof tbs_34 _ rfl) (by decide) ?_
        exact ev_le [1, 2, 3, 0] rfl rfl H
      · replace H := H.2 c4
        refine ev_aload_n (pc1 := 31) rfl rfl (TBof tbs_34 _ rfl) rfl ?_
        refine ev_getI (pc1 := 34) (ci := 2) (k := 5) (TBof tbs_34 _ rfl) rfl (fldof mo_34 fl_2_53) hS.lt0 hS.sh nk_2_5 fi_2_5 ?_
        refine ev_iload_n (pc1 := 35) rfl (TBof tbs_34 _ rfl) rfl ?_
        refine ev_callsI (pc1 := 38) (as := [.int (M2 S 5), .int v3]) (r := []) (TBof tbs_34 _ rfl) rfl (lnkof mo_34 ln_2_84) (Or.inr rfl) rfl na_61 (Nat.le_of_ble_eq_true rfl) H (fun x5 M5 h5 D5 H => ?_)
        refine ev_if (pc1 := 41) (t := 44) (TBof tbs_34 _ rfl) (by decide) rfl (fun c6 => ?_) (fun c6 => ?_)
        · replace H := H.1 c6
          refine ev_iinc (pc1 := 47) (n := 3) (c := 1) (x := v3) (cc := 1) (L1 := [(3, .int (v3 + 1)), (0, .ref S), (1, .int v1), (2, .int v2)]) rfl (by rw [ml_34]; decide) (by decide) rfl (TBof tbs_34 _ rfl) rfl ?_
          refine ev_goto (pc1 := 4) (TBof tbs_34 _ rfl) (by decide) ?_
          exact ev_le [1, 2, 3, 0] rfl rfl H
        · replace H := H.2 c6
          refine ev_iinc (pc1 := 44) (n := 2) (c := 1) (x := v2) (cc := 1) (L1 := [(2, .int (v2 + 1)), (0, .ref S), (1, .int v1), (3, .int v3)]) rfl (by rw [ml_34]; decide) (by decide) rfl (TBof tbs_34 _ rfl) rfl ?_
          refine ev_iinc (pc1 := 47) (n := 3) (c := 1) (x := v3) (cc := 1) (L1 := [(3, .int (v3 + 1)), (2, .int (v2 + 1)), (0, .ref S), (1, .int v1)]) rfl (by rw [ml_34]; decide) (by decide) rfl (TBof tbs_34 _ rfl) rfl ?_
          refine ev_goto (pc1 := 4) (TBof tbs_34 _ rfl) (by decide) ?_
          exact ev_le [2, 3, 1, 0] rfl rfl H
set_option maxRecDepth 100000 in
theorem R_X2_countThingsInDrawers_0 {d : Nat} {S : Nat} {M : Im} {h : Hm} {D : Dm} {Q : Int32 → Im → Hm → Dm → Prop} (hS : St S) (H : EvI d nX2_countThingsInDrawers 4 [(0, .ref S), (1, .int 0), (2, .int 0)] [] M h D Q) : EvI d nX2_countThingsInDrawers 0 [(0, .ref S)] [] M h D Q := by
  refine ev_iconst (pc1 := 1) (x := 0) (by decide) (TBof tbs_35 _ rfl) rfl ?_
  refine ev_istore_n (pc1 := 2) (L1 := [(1, .int 0), (0, .ref S)]) (by rw [ml_35]; decide) rfl (TBof tbs_35 _ rfl) rfl ?_
  refine ev_iconst (pc1 := 3) (x := 0) (by decide) (TBof tbs_35 _ rfl) rfl ?_
  refine ev_istore_n (pc1 := 4) (L1 := [(2, .int 0), (1, .int 0), (0, .ref S)]) (by rw [ml_35]; decide) rfl (TBof tbs_35 _ rfl) rfl ?_
  exact ev_le [2, 1, 0] rfl rfl H
set_option maxRecDepth 100000 in
theorem R_X2_countThingsInDrawers_4 {d : Nat} {S : Nat} {v1 v2 : Int32} {M : Im} {h : Hm} {D : Dm} {Q : Int32 → Im → Hm → Dm → Prop} (hS : St S) (H : ((12 ≤ v2) → (Q v1 M h D)) ∧ (¬ (12 ≤ v2) → (vp_in v2 12 ∧ (CI d nX2_isThere [.ref S, .int (M (S + 7) (v2.toNatClampNeg))] M h D (fun x2 M2 h2 D2 => ((x2 = 0) → (EvI d nX2_countThingsInDrawers 4 [(0, .ref S), (1, .int v1), (2, .int (v2 + 1))] [] M2 h2 D2 Q)) ∧ (¬ (x2 = 0) → (EvI d nX2_countThingsInDrawers 4 [(0, .ref S), (1, .int (v1 + 1)), (2, .int (v2 + 1))] [] M2 h2 D2 Q))))))) : EvI d nX2_countThingsInDrawers 4 [(0, .ref S), (1, .int v1), (2, .int v2)] [] M h D Q := by
  refine ev_iload_n (pc1 := 5) rfl (TBof tbs_35 _ rfl) rfl ?_
  refine ev_bipush (pc1 := 7) (x := 12) (by decide) (TBof tbs_35 _ rfl) rfl ?_
  refine ev_icmp (pc1 := 10) (t := 32) (TBof tbs_35 _ rfl) (by decide) rfl (fun c1 => ?_) (fun c1 => ?_)
  · replace H := H.1 c1
    refine ev_iload_n (pc1 := 33) rfl (TBof tbs_35 _ rfl) rfl ?_
    exact ev_ireturn (TBof tbs_35 _ rfl) (retI_i rt_35) ⟨_, rfl, H⟩
  · replace H := H.2 c1
    refine ev_aload_n (pc1 := 11) rfl rfl (TBof tbs_35 _ rfl) rfl ?_
    refine ev_aload_n (pc1 := 12) rfl rfl (TBof tbs_35 _ rfl) rfl ?_
    refine ev_getP (pc1 := 15) (ci := 2) (k := 13) (a := (S + 7)) (TBof tbs_35 _ rfl) rfl (fldof mo_35 fl_2_30) hS.lt0 hS.sh nk_2_13 fp_2_13 hS.n28 hS.p13 ?_
    refine ev_iload_n (pc1 := 16) rfl (TBof tbs_35 _ rfl) rfl ?_
    refine ev_iaload (pc1 := 17) (n := 12) (TBof tbs_35 _ rfl) rfl (hS.lt (j := 7) (by decide)) hS.a7 H.1 ?_
    replace H := H.2
    refine ev_callvI (pc1 := 20) (as := [.int (M (S + 7) (v2.toNatClampNeg))]) (r := []) (TBof tbs_35 _ rfl) rfl (lnkof mo_35 ln_2_65) rfl na_18 hS.lt0 (hS.sh.trans (by rw [mo_18])) (Nat.le_of_ble_eq_true rfl) H (fun x2 M2 h2 D2 H => ?_)
    refine ev_if (pc1 := 23) (t := 26) (TBof tbs_35 _ rfl) (by decide) rfl (fun c3 => ?_) (fun c3 => ?_)
    · replace H := H.1 c3
      refine ev_iinc (pc1 := 29) (n := 2) (c := 1) (x := v2) (cc := 1) (L1 := [(2, .int (v2 + 1)), (0, .ref S), (1, .int v1)]) rfl (by rw [ml_35]; decide) (by decide) rfl (TBof tbs_35 _ rfl) rfl ?_
      refine ev_goto (pc1 := 4) (TBof tbs_35 _ rfl) (by decide) ?_
      exact ev_le [1, 2, 0] rfl rfl H
    · replace H := H.2 c3
      refine ev_iinc (pc1 := 26) (n := 1) (c := 1) (x := v1) (cc := 1) (L1 := [(1, .int (v1 + 1)), (0, .ref S), (2, .int v2)]) rfl (by rw [ml_35]; decide) (by decide) rfl (TBof tbs_35 _ rfl) rfl ?_
      refine ev_iinc (pc1 := 29) (n := 2) (c := 1) (x := v2) (cc := 1) (L1 := [(2, .int (v2 + 1)), (1, .int (v1 + 1)), (0, .ref S)]) rfl (by rw [ml_35]; decide) (by decide) rfl (TBof tbs_35 _ rfl) rfl ?_
      refine ev_goto (pc1 := 4) (TBof tbs_35 _ rfl) (by decide) ?_
      exact ev_le [2, 1, 0] rfl rfl H
set_option maxRecDepth 100000 in
theorem R_X2_countThingsIn_0 {d : Nat} {S : Nat} {v1 : Int32} {M : Im} {h : Hm} {D : Dm} {Q : Int32 → Im → Hm → Dm → Prop} (hS : St S) (H : EvI d nX2_countThingsIn 4 [(0, .ref S), (1, .int v1), (2, .int 0), (3, .int 0)] [] M h D Q) : EvI d nX2_countThingsIn 0 [(0, .ref S), (1, .int v1)] [] M h D Q := by
  refine ev_iconst (pc1 := 1) (x := 0) (by decide) (TBof tbs_36 _ rfl) rfl ?_
  refine ev_istore_n (pc1 := 2) (L1 := [(2, .int 0), (0, .ref S), (1, .int v1)]) (by rw [ml_36]; decide) rfl (TBof tbs_36 _ rfl) rfl ?_
  refine ev_iconst (pc1 := 3) (x := 0) (by decide) (TBof tbs_36 _ rfl) rfl ?_
  refine ev_istore_n (pc1 := 4) (L1 := [(3, .int 0), (2, .int 0), (0, .ref S), (1, .int v1)]) (by rw [ml_36]; decide) rfl (TBof tbs_36 _ rfl) rfl ?_
  exact ev_le [2, 3, 1, 0] rfl rfl H
set_option maxRecDepth 100000 in
theorem R_X2_countThingsIn_4 {d : Nat} {S : Nat} {v1 v2 v3 : Int32} {M : Im} {h : Hm} {D : Dm} {Q : Int32 → Im → Hm → Dm → Prop} (hS : St S) (H : ((12 ≤ v3) → (Q v2 M h D)) ∧ (¬ (12 ≤ v3) → (vp_in v3 12 ∧ (((¬ ((M (S + 7) (v3.toNatClampNeg)) = v1)) → (EvI d nX2_countThingsIn 4 [(0, .ref S), (1, .int v1), (2, .int v2), (3, .int (v3 + 1))] [] M h D Q)) ∧ (¬ (¬ ((M (S + 7) (v3.toNatClampNeg)) = v1)) → (CI d nX2_isInHand [.ref S, .int v3] M h D (fun x3 M3 h3 D3 => ((¬ (x3 = 0)) → (EvI d nX2_countThingsIn 4 [(0, .ref S), (1, .int v1), (2, .int v2), (3, .int (v3 + 1))] [] M3 h3 D3 Q)) ∧ (¬ (¬ (x3 = 0)) → (EvI d nX2_countThingsIn 4 [(0, .ref S), (1, .int v1), (2, .int (v2 + 1)), (3, .int (v3 + 1))] [] M3 h3 D3 Q))))))))) : EvI d nX2_countThingsIn 4 [(0, .ref S), (1, .int v1), (2, .int v2), (3, .int v3)] [] M h D Q := by
  refine ev_iload_n (pc1 := 5) rfl (TBof tbs_36 _ rfl) rfl ?_
  refine ev_bipush (pc1 := 7) (x := 12) (by decide) (TBof tbs_36 _ rfl) rfl ?_
  refine ev_icmp (pc1 := 10) (t := 37) (TBof tbs_36 _ rfl) (by decide) rfl (fun c1 => ?_) (fun c1 => ?_)
  · replace H := H.1 c1
    refine ev_iload_n (pc1 := 38) rfl (TBof tbs_36 _ rfl) rfl ?_
    exact ev_ireturn (TBof tbs_36 _ rfl) (retI_i rt_36) ⟨_, rfl, H⟩
  · replace H := H.2 c1
    refine ev_aload_n (pc1 := 11) rfl rfl (TBof tbs_36 _ rfl) rfl ?_
    refine ev_getP (pc1 := 14) (ci := 2) (k := 13) (a := (S + 7)) (TBof tbs_36 _ rfl) rfl (fldof mo_36 fl_2_30) hS.lt0 hS.sh nk_2_13 fp_2_13 hS.n28 hS.p13 ?_
    refine ev_iload_n (pc1 := 15) rfl (TBof tbs_36 _ rfl) rfl ?_
    refine ev_iaload (pc1 := 16) (n := 12) (TBof tbs_36 _ rfl) rfl (hS.lt (j := 7) (by decide)) hS.a7 H.1 ?_
    replace H := H.2
    refine ev_iload_n (pc1 := 17) rfl (TBof tbs_36 _ rfl) rfl ?_
    refine ev_icmp (pc1 := 20) (t := 31) (TBof tbs_36 _ rfl) (by decide) rfl (fun c2 => ?_) (fun c2 => ?_)
    · replace H := H.1 c2
      refine ev_iinc (pc1 := 34) (n := 3) (c := 1) (x := v3) (cc := 1) (L1 := [(3, .int (v3 + 1)), (0, .ref S), (1, .int v1), (2, .int v2)]) rfl (by rw [ml_36]; decide) (by decide) rfl (TBof tbs_36 _ rfl) rfl ?_
      refine ev_goto (pc1 := 4) (TBof tbs_36 _ rfl) (by decide) ?_
      exact ev_le [1, 2, 3, 0] rfl rfl H
    · replace H := H.2 c2
      refine ev_aload_n (pc1 := 21) rfl rfl (TBof tbs_36 _ rfl) rfl ?_
      refine ev_iload_n (pc1 := 22) rfl (TBof tbs_36 _ rfl) rfl ?_
      refine ev_callvI (pc1 := 25) (as := [.int v3]) (r := []) (TBof tbs_36 _ rfl) rfl (lnkof mo_36 ln_2_78) rfl na_20 hS.lt0 (hS.sh.trans (by rw [mo_20])) (Nat.le_of_ble_eq_true rfl) H (fun x3 M3 h3 D3 H => ?_)
      refine ev_if (pc1 := 28) (t := 31) (TBof tbs_36 _ rfl) (by decide) rfl (fun c4 => ?_) (fun c4 => ?_)
      · replace H := H.1 c4
        refine ev_iinc (pc1 := 34) (n := 3) (c := 1) (x := v3) (cc := 1) (L1 := [(3, .int (v3 + 1)), (0, .ref S), (1, .int v1), (2, .int v2)]) rfl (by rw [ml_36]; decide) (by decide) rfl (TBof tbs_36 _ rfl) rfl ?_
        refine ev_goto (pc1 := 4) (TBof tbs_36 _ rfl) (by decide) ?_
        exact ev_le [1, 2, 3, 0] rfl rfl H
      · replace H := H.2 c4
        refine ev_iinc (pc1 := 31) (n := 2) (c := 1) (x := v2) (cc := 1) (L1 := [(2, .int (v2 + 1)), (0, .ref S), (1, .int v1), (3, .int v3)]) rfl (by rw [ml_36]; decide) (by decide) rfl (TBof tbs_36 _ rfl) rfl ?_
        refine ev_iinc (pc1 := 34) (n := 3) (c := 1) (x := v3) (cc := 1) (L1 := [(3, .int (v3 + 1)), (2, .int (v2 + 1)), (0, .ref S), (1, .int v1)]) rfl (by rw [ml_36]; decide) (by decide) rfl (TBof tbs_36 _ rfl) rfl ?_
        refine ev_goto (pc1 := 4) (TBof tbs_36 _ rfl) (by decide) ?_
        exact ev_le [2, 3, 1, 0] rfl rfl H
set_option maxRecDepth 100000 in
theorem R_X2_countOuters_0 {d : Nat} {S : Nat} {v1 : Int32} {M : Im} {h : Hm} {D : Dm} {Q : Int32 → Im → Hm → Dm → Prop} (hS : St S) (H : vp_in v1 16 ∧ (EvI d nX2_countOuters 9 [(0, .ref S), (1, .int v1), (2, .int (M (S + 1) (v1.toNatClampNeg))), (3, .int 0)] [] M h D Q)) : EvI d nX2_countOuters 0 [(0, .ref S), (1, .int v1)] [] M h D Q := by
  refine ev_aload_n (pc1 := 1) rfl rfl (TBof tbs_37 _ rfl) rfl ?_
  refine ev_getP (pc1 := 4) (ci := 2) (k := 7) (a := (S + 1)) (TBof tbs_37 _ rfl) rfl (fldof mo_37 fl_2_9) hS.lt0 hS.sh nk_2_7 fp_2_7 hS.n28 hS.p7 ?_
  refine ev_iload_n (pc1 := 5) rfl (TBof tbs_37 _ rfl) rfl ?_
  refine ev_iaload (pc1 := 6) (n := 16) (TBof tbs_37 _ rfl) rfl (hS.lt (j := 1) (by decide)) hS.a1 H.1 ?_
  replace H := H.2
  refine ev_istore_n (pc1 := 7) (L1 := [(2, .int (M (S + 1) (v1.toNatClampNeg))), (0, .ref S), (1, .int v1)]) (by rw [ml_37]; decide) rfl (TBof tbs_37 _ rfl) rfl ?_
  refine ev_iconst (pc1 := 8) (x := 0) (by decide) (TBof tbs_37 _ rfl) rfl ?_
  refine ev_istore_n (pc1 := 9) (L1 := [(3, .int 0), (2, .int (M (S + 1) (v1.toNatClampNeg))), (0, .ref S), (1, .int v1)]) (by rw [ml_37]; decide) rfl (TBof tbs_37 _ rfl) rfl ?_
  exact ev_le [2, 3, 1, 0] rfl rfl H
set_option maxRecDepth 100000 in
theorem R_X2_countOuters_9 {d : Nat} {S : Nat} {v1 v2 v3 : Int32} {M : Im} {h : Hm} {D : Dm} {Q : Int32 → Im → Hm → Dm → Prop} (hS : St S) (H : ((16 ≤ v3) → (Q v3 M h D)) ∧ (¬ (16 ≤ v3) → (CI d nX2_isThere [.ref S, .int v2] M h D (fun x2 M2 h2 D2 => ((x2 = 0) → (Q v3 M2 h2 D2)) ∧ (¬ (x2 = 0) → (vp_in v2 16 ∧ (EvI d nX2_countOuters 9 [(0, .ref S), (1, .int v1), (2, .int (M2 (S + 1) (v2.toNatClampNeg))), (3, .int (v3 + 1))] [] M2 h2 D2 Q))))))) : EvI d nX2_countOuters 9 [(0, .ref S), (1, .int v1), (2, .int v2), (3, .int v3)] [] M h D Q := by
  refine ev_iload_n (pc1 := 10) rfl (TBof tbs_37 _ rfl) rfl ?_
  refine ev_bipush (pc1 := 12) (x := 16) (by decide) (TBof tbs_37 _ rfl) rfl ?_
  refine ev_icmp (pc1 := 15) (t := 36) (TBof tbs_37 _ rfl) (by decide) rfl (fun c1 => ?_) (fun c1 => ?_)
  · replace H := H.1 c1
    refine ev_iload_n (pc1 := 37) rfl (TBof tbs_37 _ rfl) rfl ?_
    exact ev_ireturn (TBof tbs_37 _ rfl) (retI_i rt_37) ⟨_, rfl, H⟩
  · replace H := H.2 c1
    refine ev_aload_n (pc1 := 16) rfl rfl (TBof tbs_37 _ rfl) rfl ?_
    refine ev_iload_n (pc1 := 17) rfl (TBof tbs_37 _ rfl) rfl ?_
    refine ev_callvI (pc1 := 20) (as := [.int v2]) (r := []) (TBof tbs_37 _ rfl) rfl (lnkof mo_37 ln_2_65) rfl na_18 hS.lt0 (hS.sh.trans (by rw [mo_18])) (Nat.le_of_ble_eq_true rfl) H (fun x2 M2 h2 D2 H => ?_)
    refine ev_if (pc1 := 23) (t := 36) (TBof tbs_37 _ rfl) (by decide) rfl (fun c3 => ?_) (fun c3 => ?_)
    · replace H := H.1 c3
      refine ev_iload_n (pc1 := 37) rfl (TBof tbs_37 _ rfl) rfl ?_
      exact ev_ireturn (TBof tbs_37 _ rfl) (retI_i rt_37) ⟨_, rfl, H⟩
    · replace H := H.2 c3
      refine ev_iinc (pc1 := 26) (n := 3) (c := 1) (x := v3) (cc := 1) (L1 := [(3, .int (v3 + 1)), (0, .ref S), (1, .int v1), (2, .int v2)]) rfl (by rw [ml_37]; decide) (by decide) rfl (TBof tbs_37 _ rfl) rfl ?_
      refine ev_aload_n (pc1 := 27) rfl rfl (TBof tbs_37 _ rfl) rfl ?_
      refine ev_getP (pc1 := 30) (ci := 2) (k := 7) (a := (S + 1)) (TBof tbs_37 _ rfl) rfl (fldof mo_37 fl_2_9) hS.lt0 hS.sh nk_2_7 fp_2_7 hS.n28 hS.p7 ?_
      refine ev_iload_n (pc1 := 31) rfl (TBof tbs_37 _ rfl) rfl ?_
      refine ev_iaload (pc1 := 32) (n := 16) (TBof tbs_37 _ rfl) rfl (hS.lt (j := 1) (by decide)) hS.a1 H.1 ?_
      replace H := H.2
      refine ev_istore_n (pc1 := 33) (L1 := [(2, .int (M2 (S + 1) (v2.toNatClampNeg))), (3, .int (v3 + 1)), (0, .ref S), (1, .int v1)]) (by rw [ml_37]; decide) rfl (TBof tbs_37 _ rfl) rfl ?_
      refine ev_goto (pc1 := 9) (TBof tbs_37 _ rfl) (by decide) ?_
      exact ev_le [2, 3, 0, 1] rfl rfl H
end
section
/-! what each block of code asks: class 3 -/
set_option maxRecDepth 100000 in
theorem R_X3_build_0 {d : Nat} {v1 v2 v3 v4 : Int32} {M : Im} {h : Hm} {D : Dm} {Q : Int32 → Im → Hm → Dm → Prop} (H : ((v1 = (-5)) → (EvI d nX3_build 19 [(0, .ref 0), (1, .int v1), (2, .int v2), (3, .int v3), (4, .int v4)] [] M h D Q)) ∧ (¬ (v1 = (-5)) → (CI d nX2_isThere [.ref 1, .int v1] M h D (fun x2 M2 h2 D2 => ((¬ (x2 = 0)) → (EvI d nX3_build 19 [(0, .ref 0), (1, .int v1), (2, .int v2), (3, .int v3), (4, .int v4)] [] M2 h2 D2 Q)) ∧ (¬ (¬ (x2 = 0)) → (Q (-1) M2 h2 D2)))))) : EvI d nX3_build 0 [(0, .ref 0), (1, .int v1), (2, .int v2), (3, .int v3), (4, .int v4)] [] M h D Q := by
  refine ev_iload_n (pc1 := 1) rfl (TBof tbs_39 _ rfl) rfl ?_
  refine ev_bipush (pc1 := 3) (x := (-5)) (by decide) (TBof tbs_39 _ rfl) rfl ?_
  refine ev_icmp (pc1 := 6) (t := 19) (TBof tbs_39 _ rfl) (by decide) rfl (fun c1 => ?_) (fun c1 => ?_)
  · replace H := H.1 c1
    exact ev_le [0, 1, 2, 3, 4] rfl rfl H
  · replace H := H.2 c1
    refine ev_aload_n (pc1 := 7) rfl rfl (TBof tbs_39 _ rfl) rfl ?_
    refine ev_getP (pc1 := 10) (ci := 3) (k := 0) (a := 1) (TBof tbs_39 _ rfl) rfl (fldof mo_39 fl_3_12) ltc_0 sh_0 nk_3_0 fp_3_0 (by decide) pf_0_0 ?_
    refine ev_iload_n (pc1 := 11) rfl (TBof tbs_39 _ rfl) rfl ?_
    refine ev_callvI (pc1 := 14) (as := [.int v1]) (r := []) (TBof tbs_39 _ rfl) rfl (lnkof mo_39 ln_3_48) rfl na_18 ltc_1 (sh_1.trans (by rw [mo_18])) (Nat.le_of_ble_eq_true rfl) H (fun x2 M2 h2 D2 H => ?_)
    refine ev_if (pc1 := 17) (t := 19) (TBof tbs_39 _ rfl) (by decide) rfl (fun c3 => ?_) (fun c3 => ?_)
    · replace H := H.1 c3
      exact ev_le [0, 1, 2, 3, 4] rfl rfl H
    · replace H := H.2 c3
      refine ev_iconst (pc1 := 18) (x := (-1)) (by decide) (TBof tbs_39 _ rfl) rfl ?_
      exact ev_ireturn (TBof tbs_39 _ rfl) (retI_i rt_39) ⟨_, rfl, H⟩
set_option maxRecDepth 100000 in
theorem R_X3_build_19 {d : Nat} {v1 v2 v3 v4 : Int32} {M : Im} {h : Hm} {D : Dm} {Q : Int32 → Im → Hm → Dm → Prop} (H : CI d nX3_isHold [.int v2, .int v3] M h D (fun x1 M1 h1 D1 => ((x1 = 0) → (Q (-2) M1 h1 D1)) ∧ (¬ (x1 = 0) → (((v4 < 0) → (Q (-2) M1 h1 D1)) ∧ (¬ (v4 < 0) → (((v4 ≤ 9) → ((((M1 1 0) < 16) → ((((M1 1 1) = 0) → (CV d nX3_recordState [.ref 0] M1 h1 D1 (fun M7 h7 D7 => CV d nX2_addDrawer [.ref 1, .int v1, .int v2, .int v3, .int v4, .int 0] M7 h7 D7 (fun M8 h8 D8 => Q ((M8 1 0) - 1) M8 h8 D8)))) ∧ (¬ ((M1 1 1) = 0) → (Q (-4) M1 h1 D1)))) ∧ (¬ ((M1 1 0) < 16) → (Q (-3) M1 h1 D1)))) ∧ (¬ (v4 ≤ 9) → (Q (-2) M1 h1 D1)))))))) : EvI d nX3_build 19 [(0, .ref 0), (1, .int v1), (2, .int v2), (3, .int v3), (4, .int v4)] [] M h D Q := by
  refine ev_iload_n (pc1 := 20) rfl (TBof tbs_39 _ rfl) rfl ?_
  refine ev_iload_n (pc1 := 21) rfl (TBof tbs_39 _ rfl) rfl ?_
  refine ev_callsI (pc1 := 24) (as := [.int v2, .int v3]) (r := []) (TBof tbs_39 _ rfl) rfl (lnkof mo_39 ln_3_52) (Or.inl rfl) rfl na_57 (Nat.le_of_ble_eq_true rfl) H (fun x1 M1 h1 D1 H => ?_)
  refine ev_if (pc1 := 27) (t := 39) (TBof tbs_39 _ rfl) (by decide) rfl (fun c2 => ?_) (fun c2 => ?_)
  · replace H := H.1 c2
    refine ev_bipush (pc1 := 41) (x := (-2)) (by decide) (TBof tbs_39 _ rfl) rfl ?_
    exact ev_ireturn (TBof tbs_39 _ rfl) (retI_i rt_39) ⟨_, rfl, H⟩
  · replace H := H.2 c2
    refine ev_iload (pc1 := 29) rfl (TBof tbs_39 _ rfl) rfl ?_
    refine ev_if (pc1 := 32) (t := 39) (TBof tbs_39 _ rfl) (by decide) rfl (fun c3 => ?_) (fun c3 => ?_)
    · replace H := H.1 c3
      refine ev_bipush (pc1 := 41) (x := (-2)) (by decide) (TBof tbs_39 _ rfl) rfl ?_
      exact ev_ireturn (TBof tbs_39 _ rfl) (retI_i rt_39) ⟨_, rfl, H⟩
    · replace H := H.2 c3
      refine ev_iload (pc1 := 34) rfl (TBof tbs_39 _ rfl) rfl ?_
      refine ev_bipush (pc1 := 36) (x := 9) (by decide) (TBof tbs_39 _ rfl) rfl ?_
      refine ev_icmp (pc1 := 39) (t := 42) (TBof tbs_39 _ rfl) (by decide) rfl (fun c4 => ?_) (fun c4 => ?_)
      · replace H := H.1 c4
        refine ev_aload_n (pc1 := 43) rfl rfl (TBof tbs_39 _ rfl) rfl ?_
        refine ev_getP (pc1 := 46) (ci := 3) (k := 0) (a := 1) (TBof tbs_39 _ rfl) rfl (fldof mo_39 fl_3_12) ltc_0 sh_0 nk_3_0 fp_3_0 (by decide) pf_0_0 ?_
        refine ev_getI (pc1 := 49) (ci := 2) (k := 0) (TBof tbs_39 _ rfl) rfl (fldof mo_39 fl_3_56) ltc_1 sh_1 nk_2_0 fi_2_0 ?_
        refine ev_bipush (pc1 := 51) (x := 16) (by decide) (TBof tbs_39 _ rfl) rfl ?_
        refine ev_icmp (pc1 := 54) (t := 57) (TBof tbs_39 _ rfl) (by decide) rfl (fun c5 => ?_) (fun c5 => ?_)
        · replace H := H.1 c5
          refine ev_aload_n (pc1 := 58) rfl rfl (TBof tbs_39 _ rfl) rfl ?_
          refine ev_getP (pc1 := 61) (ci := 3) (k := 0) (a := 1) (TBof tbs_39 _ rfl) rfl (fldof mo_39 fl_3_12) ltc_0 sh_0 nk_3_0 fp_3_0 (by decide) pf_0_0 ?_
          refine ev_getI (pc1 := 64) (ci := 2) (k := 1) (TBof tbs_39 _ rfl) rfl (fldof mo_39 fl_3_59) ltc_1 sh_1 nk_2_1 fi_2_1 ?_
          refine ev_if (pc1 := 67) (t := 70) (TBof tbs_39 _ rfl) (by decide) rfl (fun c6 => ?_) (fun c6 => ?_)
          · replace H := H.1 c6
            refine ev_aload_n (pc1 := 71) rfl rfl (TBof tbs_39 _ rfl) rfl ?_
            refine ev_callvV (pc1 := 74) (as := []) (r := []) (TBof tbs_39 _ rfl) rfl (lnkof mo_39 ln_3_62) rfl na_63 ltc_0 (sh_0.trans (by rw [mo_63])) (Nat.le_of_ble_eq_true rfl) H (fun M7 h7 D7 H => ?_)
            refine ev_aload_n (pc1 := 75) rfl rfl (TBof tbs_39 _ rfl) rfl ?_
            refine ev_getP (pc1 := 78) (ci := 3) (k := 0) (a := 1) (TBof tbs_39 _ rfl) rfl (fldof mo_39 fl_3_12) ltc_0 sh_0 nk_3_0 fp_3_0 (by decide) pf_0_0 ?_
            refine ev_iload_n (pc1 := 79) rfl (TBof tbs_39 _ rfl) rfl ?_
            refine ev_iload_n (pc1 := 80) rfl (TBof tbs_39 _ rfl) rfl ?_
            refine ev_iload_n (pc1 := 81) rfl (TBof tbs_39 _ rfl) rfl ?_
            refine ev_iload (pc1 := 83) rfl (TBof tbs_39 _ rfl) rfl ?_
            refine ev_iconst (pc1 := 84) (x := 0) (by decide) (TBof tbs_39 _ rfl) rfl ?_
            refine ev_callvV (pc1 := 87) (as := [.int v1, .int v2, .int v3, .int v4, .int 0]) (r := []) (TBof tbs_39 _ rfl) rfl (lnkof mo_39 ln_3_65) rfl na_15 ltc_1 (sh_1.trans (by rw [mo_15])) (Nat.le_of_ble_eq_true rfl) H (fun M8 h8 D8 H => ?_)
            refine ev_aload_n (pc1 := 88) rfl rfl (TBof tbs_39 _ rfl) rfl ?_
            refine ev_getP (pc1 := 91) (ci := 3) (k := 0) (a := 1) (TBof tbs_39 _ rfl) rfl (fldof mo_39 fl_3_12) ltc_0 sh_0 nk_3_0 fp_3_0 (by decide) pf_0_0 ?_
            refine ev_getI (pc1 := 94) (ci := 2) (k := 0) (TBof tbs_39 _ rfl) rfl (fldof mo_39 fl_3_56) ltc_1 sh_1 nk_2_0 fi_2_0 ?_
            refine ev_iconst (pc1 := 95) (x := 1) (by decide) (TBof tbs_39 _ rfl) rfl ?_
            refine ev_isub (pc1 := 96) (TBof tbs_39 _ rfl) rfl ?_
            exact ev_ireturn (TBof tbs_39 _ rfl) (retI_i rt_39) ⟨_, rfl, H⟩
          · replace H := H.2 c6
            refine ev_bipush (pc1 := 69) (x := (-4)) (by decide) (TBof tbs_39 _ rfl) rfl ?_
            exact ev_ireturn (TBof tbs_39 _ rfl) (retI_i rt_39) ⟨_, rfl, H⟩
        · replace H := H.2 c5
          refine ev_bipush (pc1 := 56) (x := (-3)) (by decide) (TBof tbs_39 _ rfl) rfl ?_
          exact ev_ireturn (TBof tbs_39 _ rfl) (retI_i rt_39) ⟨_, rfl, H⟩
      · replace H := H.2 c4
        refine ev_bipush (pc1 := 41) (x := (-2)) (by decide) (TBof tbs_39 _ rfl) rfl ?_
        exact ev_ireturn (TBof tbs_39 _ rfl) (retI_i rt_39) ⟨_, rfl, H⟩
set_option maxRecDepth 100000 in
theorem R_X3_setBottoms_0 {d : Nat} {v1 v2 : Int32} {M : Im} {h : Hm} {D : Dm} {Q : Int32 → Im → Hm → Dm → Prop} (H : CI d nX2_isThere [.ref 1, .int v1] M h D (fun x1 M1 h1 D1 => ((¬ (x1 = 0)) → (((v2 < 0) → (Q (-2) M1 h1 D1)) ∧ (¬ (v2 < 0) → (((v2 ≤ 3) → ((((M1 1 1) = 0) → (vp_in v1 16 ∧ (((¬ ((M1 6 (v1.toNatClampNeg)) = v2)) → (CV d nX3_recordState [.ref 0] M1 h1 D1 (fun M7 h7 D7 => CV d nX2_changeBottoms [.ref 1, .int v1, .int v2] M7 h7 D7 (fun M8 h8 D8 => Q (M1 6 (v1.toNatClampNeg)) M8 h8 D8)))) ∧ (¬ (¬ ((M1 6 (v1.toNatClampNeg)) = v2)) → (Q (-5) M1 h1 D1))))) ∧ (¬ ((M1 1 1) = 0) → (Q (-4) M1 h1 D1)))) ∧ (¬ (v2 ≤ 3) → (Q (-2) M1 h1 D1)))))) ∧ (¬ (¬ (x1 = 0)) → (Q (-1) M1 h1 D1)))) : EvI d nX3_setBottoms 0 [(0, .ref 0), (1, .int v1), (2, .int v2)] [] M h D Q := by
  refine ev_aload_n (pc1 := 1) rfl rfl (TBof tbs_40 _ rfl) rfl ?_
  refine ev_getP (pc1 := 4) (ci := 3) (k := 0) (a := 1) (TBof tbs_40 _ rfl) rfl (fldof mo_40 fl_3_12) ltc_0 sh_0 nk_3_0 fp_3_0 (by decide) pf_0_0 ?_
  refine ev_iload_n (pc1 := 5) rfl (TBof tbs_40 _ rfl) rfl ?_
  refine ev_callvI (pc1 := 8) (as := [.int v1]) (r := []) (TBof tbs_40 _ rfl) rfl (lnkof mo_40 ln_3_48) rfl na_18 ltc_1 (sh_1.trans (by rw [mo_18])) (Nat.le_of_ble_eq_true rfl) H (fun x1 M1 h1 D1 H => ?_)
  refine ev_if (pc1 := 11) (t := 13) (TBof tbs_40 _ rfl) (by decide) rfl (fun c2 => ?_) (fun c2 => ?_)
  · replace H := H.1 c2
    refine ev_iload_n (pc1 := 14) rfl (TBof tbs_40 _ rfl) rfl ?_
    refine ev_if (pc1 := 17) (t := 22) (TBof tbs_40 _ rfl) (by decide) rfl (fun c3 => ?_) (fun c3 => ?_)
    · replace H := H.1 c3
      refine ev_bipush (pc1 := 24) (x := (-2)) (by decide) (TBof tbs_40 _ rfl) rfl ?_
      exact ev_ireturn (TBof tbs_40 _ rfl) (retI_i rt_40) ⟨_, rfl, H⟩
    · replace H := H.2 c3
      refine ev_iload_n (pc1 := 18) rfl (TBof tbs_40 _ rfl) rfl ?_
      refine ev_iconst (pc1 := 19) (x := 3) (by decide) (TBof tbs_40 _ rfl) rfl ?_
      refine ev_icmp (pc1 := 22) (t := 25) (TBof tbs_40 _ rfl) (by decide) rfl (fun c4 => ?_) (fun c4 => ?_)
      · replace H := H.1 c4
        refine ev_aload_n (pc1 := 26) rfl rfl (TBof tbs_40 _ rfl) rfl ?_
        refine ev_getP (pc1 := 29) (ci := 3) (k := 0) (a := 1) (TBof tbs_40 _ rfl) rfl (fldof mo_40 fl_3_12) ltc_0 sh_0 nk_3_0 fp_3_0 (by decide) pf_0_0 ?_
        refine ev_getI (pc1 := 32) (ci := 2) (k := 1) (TBof tbs_40 _ rfl) rfl (fldof mo_40 fl_3_59) ltc_1 sh_1 nk_2_1 fi_2_1 ?_
        refine ev_if (pc1 := 35) (t := 38) (TBof tbs_40 _ rfl) (by decide) rfl (fun c5 => ?_) (fun c5 => ?_)
        · replace H := H.1 c5
          refine ev_aload_n (pc1 := 39) rfl rfl (TBof tbs_40 _ rfl) rfl ?_
          refine ev_getP (pc1 := 42) (ci := 3) (k := 0) (a := 1) (TBof tbs_40 _ rfl) rfl (fldof mo_40 fl_3_12) ltc_0 sh_0 nk_3_0 fp_3_0 (by decide) pf_0_0 ?_
          refine ev_getP (pc1 := 45) (ci := 2) (k := 11) (a := 6) (TBof tbs_40 _ rfl) rfl (fldof mo_40 fl_3_92) ltc_1 sh_1 nk_2_11 fp_2_11 (by decide) pf_1_11 ?_
          refine ev_iload_n (pc1 := 46) rfl (TBof tbs_40 _ rfl) rfl ?_
          refine ev_iaload (pc1 := 47) (n := 16) (TBof tbs_40 _ rfl) rfl ltc_6 sh_6 H.1 ?_
          replace H := H.2
          refine ev_istore_n (pc1 := 48) (L1 := [(3, .int (M1 6 (v1.toNatClampNeg))), (0, .ref 0), (1, .int v1), (2, .int v2)]) (by rw [ml_40]; decide) rfl (TBof tbs_40 _ rfl) rfl ?_
          refine ev_iload_n (pc1 := 49) rfl (TBof tbs_40 _ rfl) rfl ?_
          refine ev_iload_n (pc1 := 50) rfl (TBof tbs_40 _ rfl) rfl ?_
          refine ev_icmp (pc1 := 53) (t := 56) (TBof tbs_40 _ rfl) (by decide) rfl (fun c6 => ?_) (fun c6 => ?_)
          · replace H := H.1 c6
            refine ev_aload_n (pc1 := 57) rfl rfl (TBof tbs_40 _ rfl) rfl ?_
            refine ev_callvV (pc1 := 60) (as := []) (r := []) (TBof tbs_40 _ rfl) rfl (lnkof mo_40 ln_3_62) rfl na_63 ltc_0 (sh_0.trans (by rw [mo_63])) (Nat.le_of_ble_eq_true rfl) H (fun M7 h7 D7 H => ?_)
            refine ev_aload_n (pc1 := 61) rfl rfl (TBof tbs_40 _ rfl) rfl ?_
            refine ev_getP (pc1 := 64) (ci := 3) (k := 0) (a := 1) (TBof tbs_40 _ rfl) rfl (fldof mo_40 fl_3_12) ltc_0 sh_0 nk_3_0 fp_3_0 (by decide) pf_0_0 ?_
            refine ev_iload_n (pc1 := 65) rfl (TBof tbs_40 _ rfl) rfl ?_
            refine ev_iload_n (pc1 := 66) rfl (TBof tbs_40 _ rfl) rfl ?_
            refine ev_callvV (pc1 := 69) (as := [.int v1, .int v2]) (r := []) (TBof tbs_40 _ rfl) rfl (lnkof mo_40 ln_3_93) rfl na_16 ltc_1 (sh_1.trans (by rw [mo_16])) (Nat.le_of_ble_eq_true rfl) H (fun M8 h8 D8 H => ?_)
            refine ev_iload_n (pc1 := 70) rfl (TBof tbs_40 _ rfl) rfl ?_
            exact ev_ireturn (TBof tbs_40 _ rfl) (retI_i rt_40) ⟨_, rfl, H⟩
          · replace H := H.2 c6
            refine ev_bipush (pc1 := 55) (x := (-5)) (by decide) (TBof tbs_40 _ rfl) rfl ?_
            exact ev_ireturn (TBof tbs_40 _ rfl) (retI_i rt_40) ⟨_, rfl, H⟩
        · replace H := H.2 c5
          refine ev_bipush (pc1 := 37) (x := (-4)) (by decide) (TBof tbs_40 _ rfl) rfl ?_
          exact ev_ireturn (TBof tbs_40 _ rfl) (retI_i rt_40) ⟨_, rfl, H⟩
      · replace H := H.2 c4
        refine ev_bipush (pc1 := 24) (x := (-2)) (by decide) (TBof tbs_40 _ rfl) rfl ?_
        exact ev_ireturn (TBof tbs_40 _ rfl) (retI_i rt_40) ⟨_, rfl, H⟩
  · replace H := H.2 c2
    refine ev_iconst (pc1 := 12) (x := (-1)) (by decide) (TBof tbs_40 _ rfl) rfl ?_
    exact ev_ireturn (TBof tbs_40 _ rfl) (retI_i rt_40) ⟨_, rfl, H⟩
set_option maxRecDepth 100000 in
theorem R_X3_lay_0 {d : Nat} {v1 v2 v3 : Int32} {M : Im} {h : Hm} {D : Dm} {Q : Int32 → Im → Hm → Dm → Prop} (H : CI d nX3_isThing [.int v1] M h D (fun x1 M1 h1 D1 => ((x1 = 0) → (Q (-1) M1 h1 D1)) ∧ (¬ (x1 = 0) → (((v2 = (-5)) → (((¬ (v2 = (-5))) → (vp_in v2 16 ∧ (EvI d nX3_lay 45 [(0, .ref 0), (1, .int v1), (2, .int v2), (3, .int v3)] [.int (M1 6 (v2.toNatClampNeg))] M1 h1 D1 Q))) ∧ (¬ (¬ (v2 = (-5))) → (EvI d nX3_lay 45 [(0, .ref 0), (1, .int v1), (2, .int v2), (3, .int v3)] [.int 0] M1 h1 D1 Q)))) ∧ (¬ (v2 = (-5)) → (CI d nX2_isThere [.ref 1, .int v2] M1 h1 D1 (fun x5 M5 h5 D5 => ((¬ (x5 = 0)) → (((¬ (v2 = (-5))) → (vp_in v2 16 ∧ (EvI d nX3_lay 45 [(0, .ref 0), (1, .int v1), (2, .int v2), (3, .int v3)] [.int (M5 6 (v2.toNatClampNeg))] M5 h5 D5 Q))) ∧ (¬ (¬ (v2 = (-5))) → (EvI d nX3_lay 45 [(0, .ref 0), (1, .int v1), (2, .int v2), (3, .int v3)] [.int 0] M5 h5 D5 Q)))) ∧ (¬ (¬ (x5 = 0)) → (Q (-1) M5 h5 D5))))))))) : EvI d nX3_lay 0 [(0, .ref 0), (1, .int v1), (2, .int v2), (3, .int v3)] [] M h D Q := by
  refine ev_iload_n (pc1 := 1) rfl (TBof tbs_41 _ rfl) rfl ?_
  refine ev_callsI (pc1 := 4) (as := [.int v1]) (r := []) (TBof tbs_41 _ rfl) rfl (lnkof mo_41 ln_3_97) (Or.inl rfl) rfl na_58 (Nat.le_of_ble_eq_true rfl) H (fun x1 M1 h1 D1 H => ?_)
  refine ev_if (pc1 := 7) (t := 24) (TBof tbs_41 _ rfl) (by decide) rfl (fun c2 => ?_) (fun c2 => ?_)
  · replace H := H.1 c2
    refine ev_iconst (pc1 := 25) (x := (-1)) (by decide) (TBof tbs_41 _ rfl) rfl ?_
    exact ev_ireturn (TBof tbs_41 _ rfl) (retI_i rt_41) ⟨_, rfl, H⟩
  · replace H := H.2 c2
    refine ev_iload_n (pc1 := 8) rfl (TBof tbs_41 _ rfl) rfl ?_
    refine ev_bipush (pc1 := 10) (x := (-5)) (by decide) (TBof tbs_41 _ rfl) rfl ?_
    refine ev_icmp (pc1 := 13) (t := 26) (TBof tbs_41 _ rfl) (by decide) rfl (fun c3 => ?_) (fun c3 => ?_)
    · replace H := H.1 c3
      refine ev_iload_n (pc1 := 27) rfl (TBof tbs_41 _ rfl) rfl ?_
      refine ev_bipush (pc1 := 29) (x := (-5)) (by decide) (TBof tbs_41 _ rfl) rfl ?_
      refine ev_icmp (pc1 := 32) (t := 36) (TBof tbs_41 _ rfl) (by decide) rfl (fun c4 => ?_) (fun c4 => ?_)
      · replace H := H.1 c4
        refine ev_aload_n (pc1 := 37) rfl rfl (TBof tbs_41 _ rfl) rfl ?_
        refine ev_getP (pc1 := 40) (ci := 3) (k := 0) (a := 1) (TBof tbs_41 _ rfl) rfl (fldof mo_41 fl_3_12) ltc_0 sh_0 nk_3_0 fp_3_0 (by decide) pf_0_0 ?_
        refine ev_getP (pc1 := 43) (ci := 2) (k := 11) (a := 6) (TBof tbs_41 _ rfl) rfl (fldof mo_41 fl_3_92) ltc_1 sh_1 nk_2_11 fp_2_11 (by decide) pf_1_11 ?_
        refine ev_iload_n (pc1 := 44) rfl (TBof tbs_41 _ rfl) rfl ?_
        refine ev_iaload (pc1 := 45) (n := 16) (TBof tbs_41 _ rfl) rfl ltc_6 sh_6 H.1 ?_
        replace H := H.2
        exact ev_le [0, 1, 2, 3] rfl rfl H
      · replace H := H.2 c4
        refine ev_iconst (pc1 := 33) (x := 0) (by decide) (TBof tbs_41 _ rfl) rfl ?_
        refine ev_goto (pc1 := 45) (TBof tbs_41 _ rfl) (by decide) ?_
        exact ev_le [0, 1, 2, 3] rfl rfl H
    · replace H := H.2 c3
      refine ev_aload_n (pc1 := 14) rfl rfl (TBof tbs_41 _ rfl) rfl ?_
      refine ev_getP (pc1 := 17) (ci := 3) (k := 0) (a := 1) (TBof tbs_41 _ rfl) rfl (fldof mo_41 fl_3_12) ltc_0 sh_0 nk_3_0 fp_3_0 (by decide) pf_0_0 ?_
      refine ev_iload_n (pc1 := 18) rfl (TBof tbs_41 _ rfl) rfl ?_
      refine ev_callvI (pc1 := 21) (as := [.int v2]) (r := []) (TBof tbs_41 _ rfl) rfl (lnkof mo_41 ln_3_48) rfl na_18 ltc_1 (sh_1.trans (by rw [mo_18])) (Nat.le_of_ble_eq_true rfl) H (fun x5 M5 h5 D5 H => ?_)
      refine ev_if (pc1 := 24) (t := 26) (TBof tbs_41 _ rfl) (by decide) rfl (fun c6 => ?_) (fun c6 => ?_)
      · replace H := H.1 c6
        refine ev_iload_n (pc1 := 27) rfl (TBof tbs_41 _ rfl) rfl ?_
        refine ev_bipush (pc1 := 29) (x := (-5)) (by decide) (TBof tbs_41 _ rfl) rfl ?_
        refine ev_icmp (pc1 := 32) (t := 36) (TBof tbs_41 _ rfl) (by decide) rfl (fun c7 => ?_) (fun c7 => ?_)
        · replace H := H.1 c7
          refine ev_aload_n (pc1 := 37) rfl rfl (TBof tbs_41 _ rfl) rfl ?_
          refine ev_getP (pc1 := 40) (ci := 3) (k := 0) (a := 1) (TBof tbs_41 _ rfl) rfl (fldof mo_41 fl_3_12) ltc_0 sh_0 nk_3_0 fp_3_0 (by decide) pf_0_0 ?_
          refine ev_getP (pc1 := 43) (ci := 2) (k := 11) (a := 6) (TBof tbs_41 _ rfl) rfl (fldof mo_41 fl_3_92) ltc_1 sh_1 nk_2_11 fp_2_11 (by decide) pf_1_11 ?_
          refine ev_iload_n (pc1 := 44) rfl (TBof tbs_41 _ rfl) rfl ?_
          refine ev_iaload (pc1 := 45) (n := 16) (TBof tbs_41 _ rfl) rfl ltc_6 sh_6 H.1 ?_
          replace H := H.2
          exact ev_le [0, 1, 2, 3] rfl rfl H
        · replace H := H.2 c7
          refine ev_iconst (pc1 := 33) (x := 0) (by decide) (TBof tbs_41 _ rfl) rfl ?_
          refine ev_goto (pc1 := 45) (TBof tbs_41 _ rfl) (by decide) ?_
          exact ev_le [0, 1, 2, 3] rfl rfl H
      · replace H := H.2 c6
        refine ev_iconst (pc1 := 25) (x := (-1)) (by decide) (TBof tbs_41 _ rfl) rfl ?_
        exact ev_ireturn (TBof tbs_41 _ rfl) (retI_i rt_41) ⟨_, rfl, H⟩
set_option maxRecDepth 100000 in
theorem R_X3_lay_45 {d : Nat} {v1 v2 v3 s0 : Int32} {M : Im} {h : Hm} {D : Dm} {Q : Int32 → Im → Hm → Dm → Prop} (H : ((v3 < 0) → (Q (-2) M h D)) ∧ (¬ (v3 < 0) → (((v3 ≤ s0) → ((((M 1 1) = 0) → (vp_in v1 12 ∧ (((¬ ((M 8 (v1.toNatClampNeg)) = v2)) → (EvI d nX3_lay 102 [(0, .ref 0), (1, .int v1), (2, .int v2), (3, .int v3), (4, .int s0)] [] M h D Q)) ∧ (¬ (¬ ((M 8 (v1.toNatClampNeg)) = v2)) → (vp_in v1 12 ∧ (((¬ ((M 9 (v1.toNatClampNeg)) = v3)) → (EvI d nX3_lay 102 [(0, .ref 0), (1, .int v1), (2, .int v2), (3, .int v3), (4, .int s0)] [] M h D Q)) ∧ (¬ (¬ ((M 9 (v1.toNatClampNeg)) = v3)) → (Q (-5) M h D)))))))) ∧ (¬ ((M 1 1) = 0) → (Q (-4) M h D)))) ∧ (¬ (v3 ≤ s0) → (Q (-2) M h D))))) : EvI d nX3_lay 45 [(0, .ref 0), (1, .int v1), (2, .int v2), (3, .int v3)] [.int s0] M h D Q := by
  refine ev_istore (pc1 := 47) (L1 := [(4, .int s0), (0, .ref 0), (1, .int v1), (2, .int v2), (3, .int v3)]) (by rw [ml_41]; decide) rfl (TBof tbs_41 _ rfl) rfl ?_
  refine ev_iload_n (pc1 := 48) rfl (TBof tbs_41 _ rfl) rfl ?_
  refine ev_if (pc1 := 51) (t := 57) (TBof tbs_41 _ rfl) (by decide) rfl (fun c1 => ?_) (fun c1 => ?_)
  · replace H := H.1 c1
    refine ev_bipush (pc1 := 59) (x := (-2)) (by decide) (TBof tbs_41 _ rfl) rfl ?_
    exact ev_ireturn (TBof tbs_41 _ rfl) (retI_i rt_41) ⟨_, rfl, H⟩
  · replace H := H.2 c1
    refine ev_iload_n (pc1 := 52) rfl (TBof tbs_41 _ rfl) rfl ?_
    refine ev_iload (pc1 := 54) rfl (TBof tbs_41 _ rfl) rfl ?_
    refine ev_icmp (pc1 := 57) (t := 60) (TBof tbs_41 _ rfl) (by decide) rfl (fun c2 => ?_) (fun c2 => ?_)
    · replace H := H.1 c2
      refine ev_aload_n (pc1 := 61) rfl rfl (TBof tbs_41 _ rfl) rfl ?_
      refine ev_getP (pc1 := 64) (ci := 3) (k := 0) (a := 1) (TBof tbs_41 _ rfl) rfl (fldof mo_41 fl_3_12) ltc_0 sh_0 nk_3_0 fp_3_0 (by decide) pf_0_0 ?_
      refine ev_getI (pc1 := 67) (ci := 2) (k := 1) (TBof tbs_41 _ rfl) rfl (fldof mo_41 fl_3_59) ltc_1 sh_1 nk_2_1 fi_2_1 ?_
      refine ev_if (pc1 := 70) (t := 73) (TBof tbs_41 _ rfl) (by decide) rfl (fun c3 => ?_) (fun c3 => ?_)
      · replace H := H.1 c3
        refine ev_aload_n (pc1 := 74) rfl rfl (TBof tbs_41 _ rfl) rfl ?_
        refine ev_getP (pc1 := 77) (ci := 3) (k := 0) (a := 1) (TBof tbs_41 _ rfl) rfl (fldof mo_41 fl_3_12) ltc_0 sh_0 nk_3_0 fp_3_0 (by decide) pf_0_0 ?_
        refine ev_getP (pc1 := 80) (ci := 2) (k := 13) (a := 8) (TBof tbs_41 _ rfl) rfl (fldof mo_41 fl_3_100) ltc_1 sh_1 nk_2_13 fp_2_13 (by decide) pf_1_13 ?_
        refine ev_iload_n (pc1 := 81) rfl (TBof tbs_41 _ rfl) rfl ?_
        refine ev_iaload (pc1 := 82) (n := 12) (TBof tbs_41 _ rfl) rfl ltc_8 sh_8 H.1 ?_
        replace H := H.2
        refine ev_iload_n (pc1 := 83) rfl (TBof tbs_41 _ rfl) rfl ?_
        refine ev_icmp (pc1 := 86) (t := 102) (TBof tbs_41 _ rfl) (by decide) rfl (fun c4 => ?_) (fun c4 => ?_)
        · replace H := H.1 c4
          exact ev_le [1, 2, 3, 4, 0] rfl rfl H
        · replace H := H.2 c4
          refine ev_aload_n (pc1 := 87) rfl rfl (TBof tbs_41 _ rfl) rfl ?_
          refine ev_getP (pc1 := 90) (ci := 3) (k := 0) (a := 1) (TBof tbs_41 _ rfl) rfl (fldof mo_41 fl_3_12) ltc_0 sh_0 nk_3_0 fp_3_0 (by decide) pf_0_0 ?_
          refine ev_getP (pc1 := 93) (ci := 2) (k := 14) (a := 9) (TBof tbs_41 _ rfl) rfl (fldof mo_41 fl_3_103) ltc_1 sh_1 nk_2_14 fp_2_14 (by decide) pf_1_14 ?_
          refine ev_iload_n (pc1 := 94) rfl (TBof tbs_41 _ rfl) rfl ?_
          refine ev_iaload (pc1 := 95) (n := 12) (TBof tbs_41 _ rfl) rfl ltc_9 sh_9 H.1 ?_
          replace H := H.2
          refine ev_iload_n (pc1 := 96) rfl (TBof tbs_41 _ rfl) rfl ?_
          refine ev_icmp (pc1 := 99) (t := 102) (TBof tbs_41 _ rfl) (by decide) rfl (fun c5 => ?_) (fun c5 => ?_)
          · replace H := H.1 c5
            exact ev_le [1, 2, 3, 4, 0] rfl rfl H
          · replace H := H.2 c5
            refine ev_bipush (pc1 := 101) (x := (-5)) (by decide) (TBof tbs_41 _ rfl) rfl ?_
            exact ev_ireturn (TBof tbs_41 _ rfl) (retI_i rt_41) ⟨_, rfl, H⟩
      · replace H := H.2 c3
        refine ev_bipush (pc1 := 72) (x := (-4)) (by decide) (TBof tbs_41 _ rfl) rfl ?_
        exact ev_ireturn (TBof tbs_41 _ rfl) (retI_i rt_41) ⟨_, rfl, H⟩
    · replace H := H.2 c2
      refine ev_bipush (pc1 := 59) (x := (-2)) (by decide) (TBof tbs_41 _ rfl) rfl ?_
      exact ev_ireturn (TBof tbs_41 _ rfl) (retI_i rt_41) ⟨_, rfl, H⟩
set_option maxRecDepth 100000 in
theorem R_X3_lay_102 {d : Nat} {v1 v2 v3 v4 : Int32} {M : Im} {h : Hm} {D : Dm} {Q : Int32 → Im → Hm → Dm → Prop} (H : CV d nX3_recordState [.ref 0] M h D (fun M1 h1 D1 => vp_in v1 12 ∧ (vp_in v1 12 ∧ (CI d nX2_countThingsInDrawers [.ref 1] (up2 (up2 M1 8 (v1.toNatClampNeg) v2) 9 (v1.toNatClampNeg) v3) h1 D1 (fun x2 M2 h2 D2 => Q x2 M2 h2 D2))))) : EvI d nX3_lay 102 [(0, .ref 0), (1, .int v1), (2, .int v2), (3, .int v3), (4, .int v4)] [] M h D Q := by
  refine ev_aload_n (pc1 := 103) rfl rfl (TBof tbs_41 _ rfl) rfl ?_
  refine ev_callvV (pc1 := 106) (as := []) (r := []) (TBof tbs_41 _ rfl) rfl (lnkof mo_41 ln_3_62) rfl na_63 ltc_0 (sh_0.trans (by rw [mo_63])) (Nat.le_of_ble_eq_true rfl) H (fun M1 h1 D1 H => ?_)
  refine ev_aload_n (pc1 := 107) rfl rfl (TBof tbs_41 _ rfl) rfl ?_
  refine ev_getP (pc1 := 110) (ci := 3) (k := 0) (a := 1) (TBof tbs_41 _ rfl) rfl (fldof mo_41 fl_3_12) ltc_0 sh_0 nk_3_0 fp_3_0 (by decide) pf_0_0 ?_
  refine ev_getP (pc1 := 113) (ci := 2) (k := 13) (a := 8) (TBof tbs_41 _ rfl) rfl (fldof mo_41 fl_3_100) ltc_1 sh_1 nk_2_13 fp_2_13 (by decide) pf_1_13 ?_
  refine ev_iload_n (pc1 := 114) rfl (TBof tbs_41 _ rfl) rfl ?_
  refine ev_iload_n (pc1 := 115) rfl (TBof tbs_41 _ rfl) rfl ?_
  refine ev_iastore (pc1 := 116) (n := 12) (TBof tbs_41 _ rfl) rfl ltc_8 sh_8 H.1 ?_
  replace H := H.2
  refine ev_aload_n (pc1 := 117) rfl rfl (TBof tbs_41 _ rfl) rfl ?_
  refine ev_getP (pc1 := 120) (ci := 3) (k := 0) (a := 1) (TBof tbs_41 _ rfl) rfl (fldof mo_41 fl_3_12) ltc_0 sh_0 nk_3_0 fp_3_0 (by decide) pf_0_0 ?_
  refine ev_getP (pc1 := 123) (ci := 2) (k := 14) (a := 9) (TBof tbs_41 _ rfl) rfl (fldof mo_41 fl_3_103) ltc_1 sh_1 nk_2_14 fp_2_14 (by decide) pf_1_14 ?_
  refine ev_iload_n (pc1 := 124) rfl (TBof tbs_41 _ rfl) rfl ?_
  refine ev_iload_n (pc1 := 125) rfl (TBof tbs_41 _ rfl) rfl ?_
  refine ev_iastore (pc1 := 126) (n := 12) (TBof tbs_41 _ rfl) rfl ltc_9 sh_9 H.1 ?_
  replace H := H.2
  refine ev_aload_n (pc1 := 127) rfl rfl (TBof tbs_41 _ rfl) rfl ?_
  refine ev_getP (pc1 := 130) (ci := 3) (k := 0) (a := 1) (TBof tbs_41 _ rfl) rfl (fldof mo_41 fl_3_12) ltc_0 sh_0 nk_3_0 fp_3_0 (by decide) pf_0_0 ?_
  refine ev_callvI (pc1 := 133) (as := []) (r := []) (TBof tbs_41 _ rfl) rfl (lnkof mo_41 ln_3_106) rfl na_35 ltc_1 (sh_1.trans (by rw [mo_35])) (Nat.le_of_ble_eq_true rfl) H (fun x2 M2 h2 D2 H => ?_)
  exact ev_ireturn (TBof tbs_41 _ rfl) (retI_i rt_41) ⟨_, rfl, H⟩
set_option maxRecDepth 100000 in
theorem R_X3_begin_0 {d : Nat} {M : Im} {h : Hm} {D : Dm} {Q : Int32 → Im → Hm → Dm → Prop} (H : ((¬ ((M 1 1) = 0)) → (Q (-4) M h D)) ∧ (¬ (¬ ((M 1 1) = 0)) → ((((M 1 0) = 0) → (Q (-4) M h D)) ∧ (¬ ((M 1 0) = 0) → (CI d nX2_hasAllHolders [.ref 1] M h D (fun x3 M3 h3 D3 => ((¬ (x3 = 0)) → (CV d nX3_recordState [.ref 0] M3 h3 D3 (fun M5 h5 D5 => CV d nX2_putBack [.ref 1] M5 h5 D5 (fun M6 h6 D6 => Q ((up2 M6 1 1 1) 1 0) (up2 M6 1 1 1) h6 D6)))) ∧ (¬ (¬ (x3 = 0)) → (Q (-4) M3 h3 D3)))))))) : EvI d nX3_begin 0 [(0, .ref 0)] [] M h D Q := by
  refine ev_aload_n (pc1 := 1) rfl rfl (TBof tbs_42 _ rfl) rfl ?_
  refine ev_getP (pc1 := 4) (ci := 3) (k := 0) (a := 1) (TBof tbs_42 _ rfl) rfl (fldof mo_42 fl_3_12) ltc_0 sh_0 nk_3_0 fp_3_0 (by decide) pf_0_0 ?_
  refine ev_getI (pc1 := 7) (ci := 2) (k := 1) (TBof tbs_42 _ rfl) rfl (fldof mo_42 fl_3_59) ltc_1 sh_1 nk_2_1 fi_2_1 ?_
  refine ev_if (pc1 := 10) (t := 30) (TBof tbs_42 _ rfl) (by decide) rfl (fun c1 => ?_) (fun c1 => ?_)
  · replace H := H.1 c1
    refine ev_bipush (pc1 := 32) (x := (-4)) (by decide) (TBof tbs_42 _ rfl) rfl ?_
    exact ev_ireturn (TBof tbs_42 _ rfl) (retI_i rt_42) ⟨_, rfl, H⟩
  · replace H := H.2 c1
    refine ev_aload_n (pc1 := 11) rfl rfl (TBof tbs_42 _ rfl) rfl ?_
    refine ev_getP (pc1 := 14) (ci := 3) (k := 0) (a := 1) (TBof tbs_42 _ rfl) rfl (fldof mo_42 fl_3_12) ltc_0 sh_0 nk_3_0 fp_3_0 (by decide) pf_0_0 ?_
    refine ev_getI (pc1 := 17) (ci := 2) (k := 0) (TBof tbs_42 _ rfl) rfl (fldof mo_42 fl_3_56) ltc_1 sh_1 nk_2_0 fi_2_0 ?_
    refine ev_if (pc1 := 20) (t := 30) (TBof tbs_42 _ rfl) (by decide) rfl (fun c2 => ?_) (fun c2 => ?_)
    · replace H := H.1 c2
      refine ev_bipush (pc1 := 32) (x := (-4)) (by decide) (TBof tbs_42 _ rfl) rfl ?_
      exact ev_ireturn (TBof tbs_42 _ rfl) (retI_i rt_42) ⟨_, rfl, H⟩
    · replace H := H.2 c2
      refine ev_aload_n (pc1 := 21) rfl rfl (TBof tbs_42 _ rfl) rfl ?_
      refine ev_getP (pc1 := 24) (ci := 3) (k := 0) (a := 1) (TBof tbs_42 _ rfl) rfl (fldof mo_42 fl_3_12) ltc_0 sh_0 nk_3_0 fp_3_0 (by decide) pf_0_0 ?_
      refine ev_callvI (pc1 := 27) (as := []) (r := []) (TBof tbs_42 _ rfl) rfl (lnkof mo_42 ln_3_109) rfl na_32 ltc_1 (sh_1.trans (by rw [mo_32])) (Nat.le_of_ble_eq_true rfl) H (fun x3 M3 h3 D3 H => ?_)
      refine ev_if (pc1 := 30) (t := 33) (TBof tbs_42 _ rfl) (by decide) rfl (fun c4 => ?_) (fun c4 => ?_)
      · replace H := H.1 c4
        refine ev_aload_n (pc1 := 34) rfl rfl (TBof tbs_42 _ rfl) rfl ?_
        refine ev_callvV (pc1 := 37) (as := []) (r := []) (TBof tbs_42 _ rfl) rfl (lnkof mo_42 ln_3_62) rfl na_63 ltc_0 (sh_0.trans (by rw [mo_63])) (Nat.le_of_ble_eq_true rfl) H (fun M5 h5 D5 H => ?_)
        refine ev_aload_n (pc1 := 38) rfl rfl (TBof tbs_42 _ rfl) rfl ?_
        refine ev_getP (pc1 := 41) (ci := 3) (k := 0) (a := 1) (TBof tbs_42 _ rfl) rfl (fldof mo_42 fl_3_12) ltc_0 sh_0 nk_3_0 fp_3_0 (by decide) pf_0_0 ?_
        refine ev_callvV (pc1 := 44) (as := []) (r := []) (TBof tbs_42 _ rfl) rfl (lnkof mo_42 ln_3_113) rfl na_17 ltc_1 (sh_1.trans (by rw [mo_17])) (Nat.le_of_ble_eq_true rfl) H (fun M6 h6 D6 H => ?_)
        refine ev_aload_n (pc1 := 45) rfl rfl (TBof tbs_42 _ rfl) rfl ?_
        refine ev_getP (pc1 := 48) (ci := 3) (k := 0) (a := 1) (TBof tbs_42 _ rfl) rfl (fldof mo_42 fl_3_12) ltc_0 sh_0 nk_3_0 fp_3_0 (by decide) pf_0_0 ?_
        refine ev_iconst (pc1 := 49) (x := 1) (by decide) (TBof tbs_42 _ rfl) rfl ?_
        refine ev_putZ (pc1 := 52) (ci := 2) (k := 1) (TBof tbs_42 _ rfl) rfl (fldof mo_42 fl_3_59) ltc_1 sh_1 nk_2_1 rfl rfl (Or.inr rfl) ?_
        refine ev_aload_n (pc1 := 53) rfl rfl (TBof tbs_42 _ rfl) rfl ?_
        refine ev_getP (pc1 := 56) (ci := 3) (k := 0) (a := 1) (TBof tbs_42 _ rfl) rfl (fldof mo_42 fl_3_12) ltc_0 sh_0 nk_3_0 fp_3_0 (by decide) pf_0_0 ?_
        refine ev_getI (pc1 := 59) (ci := 2) (k := 0) (TBof tbs_42 _ rfl) rfl (fldof mo_42 fl_3_56) ltc_1 sh_1 nk_2_0 fi_2_0 ?_
        exact ev_ireturn (TBof tbs_42 _ rfl) (retI_i rt_42) ⟨_, rfl, H⟩
      · replace H := H.2 c4
        refine ev_bipush (pc1 := 32) (x := (-4)) (by decide) (TBof tbs_42 _ rfl) rfl ?_
        exact ev_ireturn (TBof tbs_42 _ rfl) (retI_i rt_42) ⟨_, rfl, H⟩
set_option maxRecDepth 100000 in
theorem R_X3_giveUp_0 {d : Nat} {M : Im} {h : Hm} {D : Dm} {Q : Int32 → Im → Hm → Dm → Prop} (H : ((¬ ((M 1 1) = 0)) → (CV d nX3_recordState [.ref 0] M h D (fun M2 h2 D2 => CV d nX2_putBack [.ref 1] M2 h2 D2 (fun M3 h3 D3 => Q (M 1 2) M3 h3 D3)))) ∧ (¬ (¬ ((M 1 1) = 0)) → (Q (-4) M h D))) : EvI d nX3_giveUp 0 [(0, .ref 0)] [] M h D Q := by
  refine ev_aload_n (pc1 := 1) rfl rfl (TBof tbs_43 _ rfl) rfl ?_
  refine ev_getP (pc1 := 4) (ci := 3) (k := 0) (a := 1) (TBof tbs_43 _ rfl) rfl (fldof mo_43 fl_3_12) ltc_0 sh_0 nk_3_0 fp_3_0 (by decide) pf_0_0 ?_
  refine ev_getI (pc1 := 7) (ci := 2) (k := 1) (TBof tbs_43 _ rfl) rfl (fldof mo_43 fl_3_59) ltc_1 sh_1 nk_2_1 fi_2_1 ?_
  refine ev_if (pc1 := 10) (t := 13) (TBof tbs_43 _ rfl) (by decide) rfl (fun c1 => ?_) (fun c1 => ?_)
  · replace H := H.1 c1
    refine ev_aload_n (pc1 := 14) rfl rfl (TBof tbs_43 _ rfl) rfl ?_
    refine ev_getP (pc1 := 17) (ci := 3) (k := 0) (a := 1) (TBof tbs_43 _ rfl) rfl (fldof mo_43 fl_3_12) ltc_0 sh_0 nk_3_0 fp_3_0 (by decide) pf_0_0 ?_
    refine ev_getI (pc1 := 20) (ci := 2) (k := 2) (TBof tbs_43 _ rfl) rfl (fldof mo_43 fl_3_116) ltc_1 sh_1 nk_2_2 fi_2_2 ?_
    refine ev_istore_n (pc1 := 21) (L1 := [(1, .int (M 1 2)), (0, .ref 0)]) (by rw [ml_43]; decide) rfl (TBof tbs_43 _ rfl) rfl ?_
    refine ev_aload_n (pc1 := 22) rfl rfl (TBof tbs_43 _ rfl) rfl ?_
    refine ev_callvV (pc1 := 25) (as := []) (r := []) (TBof tbs_43 _ rfl) rfl (lnkof mo_43 ln_3_62) rfl na_63 ltc_0 (sh_0.trans (by rw [mo_63])) (Nat.le_of_ble_eq_true rfl) H (fun M2 h2 D2 H => ?_)
    refine ev_aload_n (pc1 := 26) rfl rfl (TBof tbs_43 _ rfl) rfl ?_
    refine ev_getP (pc1 := 29) (ci := 3) (k := 0) (a := 1) (TBof tbs_43 _ rfl) rfl (fldof mo_43 fl_3_12) ltc_0 sh_0 nk_3_0 fp_3_0 (by decide) pf_0_0 ?_
    refine ev_callvV (pc1 := 32) (as := []) (r := []) (TBof tbs_43 _ rfl) rfl (lnkof mo_43 ln_3_113) rfl na_17 ltc_1 (sh_1.trans (by rw [mo_17])) (Nat.le_of_ble_eq_true rfl) H (fun M3 h3 D3 H => ?_)
    refine ev_iload_n (pc1 := 33) rfl (TBof tbs_43 _ rfl) rfl ?_
    exact ev_ireturn (TBof tbs_43 _ rfl) (retI_i rt_43) ⟨_, rfl, H⟩
  · replace H := H.2 c1
    refine ev_bipush (pc1 := 12) (x := (-4)) (by decide) (TBof tbs_43 _ rfl) rfl ?_
    exact ev_ireturn (TBof tbs_43 _ rfl) (retI_i rt_43) ⟨_, rfl, H⟩
set_option maxRecDepth 100000 in
theorem R_X3_open_0 {d : Nat} {v1 : Int32} {M : Im} {h : Hm} {D : Dm} {Q : Int32 → Im → Hm → Dm → Prop} (H : CI d nX2_isThere [.ref 1, .int v1] M h D (fun x1 M1 h1 D1 => ((¬ (x1 = 0)) → (((¬ ((M1 1 1) = 0)) → (CI d nX2_isOpen [.ref 1, .int v1] M1 h1 D1 (fun x4 M4 h4 D4 => ((x4 = 0) → (CI d nX2_canOpen [.ref 1, .int v1] M4 h4 D4 (fun x6 M6 h6 D6 => ((¬ (x6 = 0)) → (CV d nX3_recordState [.ref 0] M6 h6 D6 (fun M8 h8 D8 => CV d nX2_setOpen [.ref 1, .int v1] M8 h8 D8 (fun M9 h9 D9 => vp_in v1 16 ∧ (CV d nX2_addStep [.ref 1, .int (4 + (M9 5 (v1.toNatClampNeg)))] M9 h9 D9 (fun M10 h10 D10 => CI d nJ6_bitCount_0f7a4 [.int (M10 1 4)] M10 h10 D10 (fun x11 M11 h11 D11 => Q x11 M11 h11 D11))))))) ∧ (¬ (¬ (x6 = 0)) → (Q (-4) M6 h6 D6))))) ∧ (¬ (x4 = 0) → (Q (-5) M4 h4 D4))))) ∧ (¬ (¬ ((M1 1 1) = 0)) → (Q (-4) M1 h1 D1)))) ∧ (¬ (¬ (x1 = 0)) → (Q (-1) M1 h1 D1)))) : EvI d nX3_open 0 [(0, .ref 0), (1, .int v1)] [] M h D Q := by
  refine ev_aload_n (pc1 := 1) rfl rfl (TBof tbs_44 _ rfl) rfl ?_
  refine ev_getP (pc1 := 4) (ci := 3) (k := 0) (a := 1) (TBof tbs_44 _ rfl) rfl (fldof mo_44 fl_3_12) ltc_0 sh_0 nk_3_0 fp_3_0 (by decide) pf_0_0 ?_
  refine ev_iload_n (pc1 := 5) rfl (TBof tbs_44 _ rfl) rfl ?_
  refine ev_callvI (pc1 := 8) (as := [.int v1]) (r := []) (TBof tbs_44 _ rfl) rfl (lnkof mo_44 ln_3_48) rfl na_18 ltc_1 (sh_1.trans (by rw [mo_18])) (Nat.le_of_ble_eq_true rfl) H (fun x1 M1 h1 D1 H => ?_)
  refine ev_if (pc1 := 11) (t := 13) (TBof tbs_44 _ rfl) (by decide) rfl (fun c2 => ?_) (fun c2 => ?_)
  · replace H := H.1 c2
    refine ev_aload_n (pc1 := 14) rfl rfl (TBof tbs_44 _ rfl) rfl ?_
    refine ev_getP (pc1 := 17) (ci := 3) (k := 0) (a := 1) (TBof tbs_44 _ rfl) rfl (fldof mo_44 fl_3_12) ltc_0 sh_0 nk_3_0 fp_3_0 (by decide) pf_0_0 ?_
    refine ev_getI (pc1 := 20) (ci := 2) (k := 1) (TBof tbs_44 _ rfl) rfl (fldof mo_44 fl_3_59) ltc_1 sh_1 nk_2_1 fi_2_1 ?_
    refine ev_if (pc1 := 23) (t := 26) (TBof tbs_44 _ rfl) (by decide) rfl (fun c3 => ?_) (fun c3 => ?_)
    · replace H := H.1 c3
      refine ev_aload_n (pc1 := 27) rfl rfl (TBof tbs_44 _ rfl) rfl ?_
      refine ev_getP (pc1 := 30) (ci := 3) (k := 0) (a := 1) (TBof tbs_44 _ rfl) rfl (fldof mo_44 fl_3_12) ltc_0 sh_0 nk_3_0 fp_3_0 (by decide) pf_0_0 ?_
      refine ev_iload_n (pc1 := 31) rfl (TBof tbs_44 _ rfl) rfl ?_
      refine ev_callvI (pc1 := 34) (as := [.int v1]) (r := []) (TBof tbs_44 _ rfl) rfl (lnkof mo_44 ln_3_119) rfl na_19 ltc_1 (sh_1.trans (by rw [mo_19])) (Nat.le_of_ble_eq_true rfl) H (fun x4 M4 h4 D4 H => ?_)
      refine ev_if (pc1 := 37) (t := 40) (TBof tbs_44 _ rfl) (by decide) rfl (fun c5 => ?_) (fun c5 => ?_)
      · replace H := H.1 c5
        refine ev_aload_n (pc1 := 41) rfl rfl (TBof tbs_44 _ rfl) rfl ?_
        refine ev_getP (pc1 := 44) (ci := 3) (k := 0) (a := 1) (TBof tbs_44 _ rfl) rfl (fldof mo_44 fl_3_12) ltc_0 sh_0 nk_3_0 fp_3_0 (by decide) pf_0_0 ?_
        refine ev_iload_n (pc1 := 45) rfl (TBof tbs_44 _ rfl) rfl ?_
        refine ev_callvI (pc1 := 48) (as := [.int v1]) (r := []) (TBof tbs_44 _ rfl) rfl (lnkof mo_44 ln_3_122) rfl na_22 ltc_1 (sh_1.trans (by rw [mo_22])) (Nat.le_of_ble_eq_true rfl) H (fun x6 M6 h6 D6 H => ?_)
        refine ev_if (pc1 := 51) (t := 54) (TBof tbs_44 _ rfl) (by decide) rfl (fun c7 => ?_) (fun c7 => ?_)
        · replace H := H.1 c7
          refine ev_aload_n (pc1 := 55) rfl rfl (TBof tbs_44 _ rfl) rfl ?_
          refine ev_callvV (pc1 := 58) (as := []) (r := []) (TBof tbs_44 _ rfl) rfl (lnkof mo_44 ln_3_62) rfl na_63 ltc_0 (sh_0.trans (by rw [mo_63])) (Nat.le_of_ble_eq_true rfl) H (fun M8 h8 D8 H => ?_)
          refine ev_aload_n (pc1 := 59) rfl rfl (TBof tbs_44 _ rfl) rfl ?_
          refine ev_getP (pc1 := 62) (ci := 3) (k := 0) (a := 1) (TBof tbs_44 _ rfl) rfl (fldof mo_44 fl_3_12) ltc_0 sh_0 nk_3_0 fp_3_0 (by decide) pf_0_0 ?_
          refine ev_iload_n (pc1 := 63) rfl (TBof tbs_44 _ rfl) rfl ?_
          refine ev_callvV (pc1 := 66) (as := [.int v1]) (r := []) (TBof tbs_44 _ rfl) rfl (lnkof mo_44 ln_3_125) rfl na_28 ltc_1 (sh_1.trans (by rw [mo_28])) (Nat.le_of_ble_eq_true rfl) H (fun M9 h9 D9 H => ?_)
          refine ev_aload_n (pc1 := 67) rfl rfl (TBof tbs_44 _ rfl) rfl ?_
          refine ev_getP (pc1 := 70) (ci := 3) (k := 0) (a := 1) (TBof tbs_44 _ rfl) rfl (fldof mo_44 fl_3_12) ltc_0 sh_0 nk_3_0 fp_3_0 (by decide) pf_0_0 ?_
          refine ev_iconst (pc1 := 71) (x := 4) (by decide) (TBof tbs_44 _ rfl) rfl ?_
          refine ev_aload_n (pc1 := 72) rfl rfl (TBof tbs_44 _ rfl) rfl ?_
          refine ev_getP (pc1 := 75) (ci := 3) (k := 0) (a := 1) (TBof tbs_44 _ rfl) rfl (fldof mo_44 fl_3_12) ltc_0 sh_0 nk_3_0 fp_3_0 (by decide) pf_0_0 ?_
          refine ev_getP (pc1 := 78) (ci := 2) (k := 10) (a := 5) (TBof tbs_44 _ rfl) rfl (fldof mo_44 fl_3_129) ltc_1 sh_1 nk_2_10 fp_2_10 (by decide) pf_1_10 ?_
          refine ev_iload_n (pc1 := 79) rfl (TBof tbs_44 _ rfl) rfl ?_
          refine ev_iaload (pc1 := 80) (n := 16) (TBof tbs_44 _ rfl) rfl ltc_5 sh_5 H.1 ?_
          replace H := H.2
          refine ev_iadd (pc1 := 81) (TBof tbs_44 _ rfl) rfl ?_
          refine ev_callvV (pc1 := 84) (as := [.int (4 + (M9 5 (v1.toNatClampNeg)))]) (r := []) (TBof tbs_44 _ rfl) rfl (lnkof mo_44 ln_3_132) rfl na_29 ltc_1 (sh_1.trans (by rw [mo_29])) (Nat.le_of_ble_eq_true rfl) H (fun M10 h10 D10 H => ?_)
          refine ev_aload_n (pc1 := 85) rfl rfl (TBof tbs_44 _ rfl) rfl ?_
          refine ev_getP (pc1 := 88) (ci := 3) (k := 0) (a := 1) (TBof tbs_44 _ rfl) rfl (fldof mo_44 fl_3_12) ltc_0 sh_0 nk_3_0 fp_3_0 (by decide) pf_0_0 ?_
          refine ev_getI (pc1 := 91) (ci := 2) (k := 4) (TBof tbs_44 _ rfl) rfl (fldof mo_44 fl_3_135) ltc_1 sh_1 nk_2_4 fi_2_4 ?_
          refine ev_callsI (pc1 := 94) (as := [.int (M10 1 4)]) (r := []) (TBof tbs_44 _ rfl) rfl (lnkof mo_44 ln_3_138) (Or.inl rfl) rfl na_68 (Nat.le_of_ble_eq_true rfl) H (fun x11 M11 h11 D11 H => ?_)
          exact ev_ireturn (TBof tbs_44 _ rfl) (retI_i rt_44) ⟨_, rfl, H⟩
        · replace H := H.2 c7
          refine ev_bipush (pc1 := 53) (x := (-4)) (by decide) (TBof tbs_44 _ rfl) rfl ?_
          exact ev_ireturn (TBof tbs_44 _ rfl) (retI_i rt_44) ⟨_, rfl, H⟩
      · replace H := H.2 c5
        refine ev_bipush (pc1 := 39) (x := (-5)) (by decide) (TBof tbs_44 _ rfl) rfl ?_
        exact ev_ireturn (TBof tbs_44 _ rfl) (retI_i rt_44) ⟨_, rfl, H⟩
    · replace H := H.2 c3
      refine ev_bipush (pc1 := 25) (x := (-4)) (by decide) (TBof tbs_44 _ rfl) rfl ?_
      exact ev_ireturn (TBof tbs_44 _ rfl) (retI_i rt_44) ⟨_, rfl, H⟩
  · replace H := H.2 c2
    refine ev_iconst (pc1 := 12) (x := (-1)) (by decide) (TBof tbs_44 _ rfl) rfl ?_
    exact ev_ireturn (TBof tbs_44 _ rfl) (retI_i rt_44) ⟨_, rfl, H⟩
set_option maxRecDepth 100000 in
theorem R_X3_close_0 {d : Nat} {v1 : Int32} {M : Im} {h : Hm} {D : Dm} {Q : Int32 → Im → Hm → Dm → Prop} (H : CI d nX2_isThere [.ref 1, .int v1] M h D (fun x1 M1 h1 D1 => ((¬ (x1 = 0)) → (((¬ ((M1 1 1) = 0)) → (CI d nX2_isOpen [.ref 1, .int v1] M1 h1 D1 (fun x4 M4 h4 D4 => ((¬ (x4 = 0)) → (CI d nX2_isReached [.ref 1, .int v1] M4 h4 D4 (fun x6 M6 h6 D6 => ((¬ (x6 = 0)) → (CV d nX3_recordState [.ref 0] M6 h6 D6 (fun M8 h8 D8 => CI d nX3_bit [.int v1] M8 h8 D8 (fun x9 M9 h9 D9 => vp_in v1 16 ∧ (CV d nX2_addStep [.ref 1, .int (4 + ((up2 M9 1 4 ((M8 1 4) &&& (x9 ^^^ (-1)))) 5 (v1.toNatClampNeg)))] (up2 M9 1 4 ((M8 1 4) &&& (x9 ^^^ (-1)))) h9 D9 (fun M10 h10 D10 => CI d nJ6_bitCount_0f7a4 [.int (M10 1 4)] M10 h10 D10 (fun x11 M11 h11 D11 => Q x11 M11 h11 D11))))))) ∧ (¬ (¬ (x6 = 0)) → (Q (-4) M6 h6 D6))))) ∧ (¬ (¬ (x4 = 0)) → (Q (-5) M4 h4 D4))))) ∧ (¬ (¬ ((M1 1 1) = 0)) → (Q (-4) M1 h1 D1)))) ∧ (¬ (¬ (x1 = 0)) → (Q (-1) M1 h1 D1)))) : EvI d nX3_close 0 [(0, .ref 0), (1, .int v1)] [] M h D Q := by
  refine ev_aload_n (pc1 := 1) rfl rfl (TBof tbs_45 _ rfl) rfl ?_
  refine ev_getP (pc1 := 4) (ci := 3) (k := 0) (a := 1) (TBof tbs_45 _ rfl) rfl (fldof mo_45 fl_3_12) ltc_0 sh_0 nk_3_0 fp_3_0 (by decide) pf_0_0 ?_
  refine ev_iload_n (pc1 := 5) rfl (TBof tbs_45 _ rfl) rfl ?_
  refine ev_callvI (pc1 := 8) (as := [.int v1]) (r := []) (TBof tbs_45 _ rfl) rfl (lnkof mo_45 ln_3_48) rfl na_18 ltc_1 (sh_1.trans (by rw [mo_18])) (Nat.le_of_ble_eq_true rfl) H (fun x1 M1 h1 D1 H => ?_)
  refine ev_if (pc1 := 11) (t := 13) (TBof tbs_45 _ rfl) (by decide) rfl (fun c2 => ?_) (fun c2 => ?_)
  · replace H := H.1 c2
    refine ev_aload_n (pc1 := 14) rfl rfl (TBof tbs_45 _ rfl) rfl ?_
    refine ev_getP (pc1 := 17) (ci := 3) (k := 0) (a := 1) (TBof tbs_45 _ rfl) rfl (fldof mo_45 fl_3_12) ltc_0 sh_0 nk_3_0 fp_3_0 (by decide) pf_0_0 ?_
    refine ev_getI (pc1 := 20) (ci := 2) (k := 1) (TBof tbs_45 _ rfl) rfl (fldof mo_45 fl_3_59) ltc_1 sh_1 nk_2_1 fi_2_1 ?_
    refine ev_if (pc1 := 23) (t := 26) (TBof tbs_45 _ rfl) (by decide) rfl (fun c3 => ?_) (fun c3 => ?_)
    · replace H := H.1 c3
      refine ev_aload_n (pc1 := 27) rfl rfl (TBof tbs_45 _ rfl) rfl ?_
      refine ev_getP (pc1 := 30) (ci := 3) (k := 0) (a := 1) (TBof tbs_45 _ rfl) rfl (fldof mo_45 fl_3_12) ltc_0 sh_0 nk_3_0 fp_3_0 (by decide) pf_0_0 ?_
      refine ev_iload_n (pc1 := 31) rfl (TBof tbs_45 _ rfl) rfl ?_
      refine ev_callvI (pc1 := 34) (as := [.int v1]) (r := []) (TBof tbs_45 _ rfl) rfl (lnkof mo_45 ln_3_119) rfl na_19 ltc_1 (sh_1.trans (by rw [mo_19])) (Nat.le_of_ble_eq_true rfl) H (fun x4 M4 h4 D4 H => ?_)
      refine ev_if (pc1 := 37) (t := 40) (TBof tbs_45 _ rfl) (by decide) rfl (fun c5 => ?_) (fun c5 => ?_)
      · replace H := H.1 c5
        refine ev_aload_n (pc1 := 41) rfl rfl (TBof tbs_45 _ rfl) rfl ?_
        refine ev_getP (pc1 := 44) (ci := 3) (k := 0) (a := 1) (TBof tbs_45 _ rfl) rfl (fldof mo_45 fl_3_12) ltc_0 sh_0 nk_3_0 fp_3_0 (by decide) pf_0_0 ?_
        refine ev_iload_n (pc1 := 45) rfl (TBof tbs_45 _ rfl) rfl ?_
        refine ev_callvI (pc1 := 48) (as := [.int v1]) (r := []) (TBof tbs_45 _ rfl) rfl (lnkof mo_45 ln_3_144) rfl na_21 ltc_1 (sh_1.trans (by rw [mo_21])) (Nat.le_of_ble_eq_true rfl) H (fun x6 M6 h6 D6 H => ?_)
        refine ev_if (pc1 := 51) (t := 54) (TBof tbs_45 _ rfl) (by decide) rfl (fun c7 => ?_) (fun c7 => ?_)
        · replace H := H.1 c7
          refine ev_aload_n (pc1 := 55) rfl rfl (TBof tbs_45 _ rfl) rfl ?_
          refine ev_callvV (pc1 := 58) (as := []) (r := []) (TBof tbs_45 _ rfl) rfl (lnkof mo_45 ln_3_62) rfl na_63 ltc_0 (sh_0.trans (by rw [mo_63])) (Nat.le_of_ble_eq_true rfl) H (fun M8 h8 D8 H => ?_)
          refine ev_aload_n (pc1 := 59) rfl rfl (TBof tbs_45 _ rfl) rfl ?_
          refine ev_getP (pc1 := 62) (ci := 3) (k := 0) (a := 1) (TBof tbs_45 _ rfl) rfl (fldof mo_45 fl_3_12) ltc_0 sh_0 nk_3_0 fp_3_0 (by decide) pf_0_0 ?_
          refine ev_dup (pc1 := 63) rfl (TBof tbs_45 _ rfl) rfl ?_
          refine ev_getI (pc1 := 66) (ci := 2) (k := 4) (TBof tbs_45 _ rfl) rfl (fldof mo_45 fl_3_135) ltc_1 sh_1 nk_2_4 fi_2_4 ?_
          refine ev_iload_n (pc1 := 67) rfl (TBof tbs_45 _ rfl) rfl ?_
          refine ev_callsI (pc1 := 70) (as := [.int v1]) (r := [.int (M8 1 4), .ref 1]) (TBof tbs_45 _ rfl) rfl (lnkof mo_45 ln_3_147) (Or.inl rfl) rfl na_60 (Nat.le_of_ble_eq_true rfl) H (fun x9 M9 h9 D9 H => ?_)
          refine ev_iconst (pc1 := 71) (x := (-1)) (by decide) (TBof tbs_45 _ rfl) rfl ?_
          refine ev_ixor (pc1 := 72) (TBof tbs_45 _ rfl) rfl ?_
          refine ev_iand (pc1 := 73) (TBof tbs_45 _ rfl) rfl ?_
          refine ev_putI (pc1 := 76) (ci := 2) (k := 4) (TBof tbs_45 _ rfl) rfl (fldof mo_45 fl_3_135) ltc_1 sh_1 nk_2_4 rfl rfl ?_
          refine ev_aload_n (pc1 := 77) rfl rfl (TBof tbs_45 _ rfl) rfl ?_
          refine ev_getP (pc1 := 80) (ci := 3) (k := 0) (a := 1) (TBof tbs_45 _ rfl) rfl (fldof mo_45 fl_3_12) ltc_0 sh_0 nk_3_0 fp_3_0 (by decide) pf_0_0 ?_
          refine ev_iconst (pc1 := 81) (x := 4) (by decide) (TBof tbs_45 _ rfl) rfl ?_
          refine ev_aload_n (pc1 := 82) rfl rfl (TBof tbs_45 _ rfl) rfl ?_
          refine ev_getP (pc1 := 85) (ci := 3) (k := 0) (a := 1) (TBof tbs_45 _ rfl) rfl (fldof mo_45 fl_3_12) ltc_0 sh_0 nk_3_0 fp_3_0 (by decide) pf_0_0 ?_
          refine ev_getP (pc1 := 88) (ci := 2) (k := 10) (a := 5) (TBof tbs_45 _ rfl) rfl (fldof mo_45 fl_3_129) ltc_1 sh_1 nk_2_10 fp_2_10 (by decide) pf_1_10 ?_
          refine ev_iload_n (pc1 := 89) rfl (TBof tbs_45 _ rfl) rfl ?_
          refine ev_iaload (pc1 := 90) (n := 16) (TBof tbs_45 _ rfl) rfl ltc_5 sh_5 H.1 ?_
          replace H := H.2
          refine ev_iadd (pc1 := 91) (TBof tbs_45 _ rfl) rfl ?_
          refine ev_callvV (pc1 := 94) (as := [.int (4 + ((up2 M9 1 4 ((M8 1 4) &&& (x9 ^^^ (-1)))) 5 (v1.toNatClampNeg)))]) (r := []) (TBof tbs_45 _ rfl) rfl (lnkof mo_45 ln_3_132) rfl na_29 ltc_1 (sh_1.trans (by rw [mo_29])) (Nat.le_of_ble_eq_true rfl) H (fun M10 h10 D10 H => ?_)
          refine ev_aload_n (pc1 := 95) rfl rfl (TBof tbs_45 _ rfl) rfl ?_
          refine ev_getP (pc1 := 98) (ci := 3) (k := 0) (a := 1) (TBof tbs_45 _ rfl) rfl (fldof mo_45 fl_3_12) ltc_0 sh_0 nk_3_0 fp_3_0 (by decide) pf_0_0 ?_
          refine ev_getI (pc1 := 101) (ci := 2) (k := 4) (TBof tbs_45 _ rfl) rfl (fldof mo_45 fl_3_135) ltc_1 sh_1 nk_2_4 fi_2_4 ?_
          refine ev_callsI (pc1 := 104) (as := [.int (M10 1 4)]) (r := []) (TBof tbs_45 _ rfl) rfl (lnkof mo_45 ln_3_138) (Or.inl rfl) rfl na_68 (Nat.le_of_ble_eq_true rfl) H (fun x11 M11 h11 D11 H => ?_)
          exact ev_ireturn (TBof tbs_45 _ rfl) (retI_i rt_45) ⟨_, rfl, H⟩
        · replace H := H.2 c7
          refine ev_bipush (pc1 := 53) (x := (-4)) (by decide) (TBof tbs_45 _ rfl) rfl ?_
          exact ev_ireturn (TBof tbs_45 _ rfl) (retI_i rt_45) ⟨_, rfl, H⟩
      · replace H := H.2 c5
        refine ev_bipush (pc1 := 39) (x := (-5)) (by decide) (TBof tbs_45 _ rfl) rfl ?_
        exact ev_ireturn (TBof tbs_45 _ rfl) (retI_i rt_45) ⟨_, rfl, H⟩
    · replace H := H.2 c3
      refine ev_bipush (pc1 := 25) (x := (-4)) (by decide) (TBof tbs_45 _ rfl) rfl ?_
      exact ev_ireturn (TBof tbs_45 _ rfl) (retI_i rt_45) ⟨_, rfl, H⟩
  · replace H := H.2 c2
    refine ev_iconst (pc1 := 12) (x := (-1)) (by decide) (TBof tbs_45 _ rfl) rfl ?_
    exact ev_ireturn (TBof tbs_45 _ rfl) (retI_i rt_45) ⟨_, rfl, H⟩
set_option maxRecDepth 100000 in
theorem R_X3_lift_0 {d : Nat} {v1 : Int32} {M : Im} {h : Hm} {D : Dm} {Q : Int32 → Im → Hm → Dm → Prop} (H : CI d nX2_isThere [.ref 1, .int v1] M h D (fun x1 M1 h1 D1 => ((¬ (x1 = 0)) → (((¬ ((M1 1 1) = 0)) → (CI d nX2_hasBottomLeft [.ref 1, .int v1] M1 h1 D1 (fun x4 M4 h4 D4 => ((¬ (x4 = 0)) → (CI d nX2_canLift [.ref 1, .int v1] M4 h4 D4 (fun x6 M6 h6 D6 => ((¬ (x6 = 0)) → (CV d nX3_recordState [.ref 0] M6 h6 D6 (fun M8 h8 D8 => vp_in v1 16 ∧ (vp_in v1 16 ∧ (CV d nX2_addStep [.ref 1, .int 10] (up2 M8 7 (v1.toNatClampNeg) ((M8 7 (v1.toNatClampNeg)) + 1)) h8 D8 (fun M9 h9 D9 => vp_in v1 16 ∧ (Q (M9 7 (v1.toNatClampNeg)) M9 h9 D9))))))) ∧ (¬ (¬ (x6 = 0)) → (Q (-4) M6 h6 D6))))) ∧ (¬ (¬ (x4 = 0)) → (Q (-5) M4 h4 D4))))) ∧ (¬ (¬ ((M1 1 1) = 0)) → (Q (-4) M1 h1 D1)))) ∧ (¬ (¬ (x1 = 0)) → (Q (-1) M1 h1 D1)))) : EvI d nX3_lift 0 [(0, .ref 0), (1, .int v1)] [] M h D Q := by
  refine ev_aload_n (pc1 := 1) rfl rfl (TBof tbs_46 _ rfl) rfl ?_
  refine ev_getP (pc1 := 4) (ci := 3) (k := 0) (a := 1) (TBof tbs_46 _ rfl) rfl (fldof mo_46 fl_3_12) ltc_0 sh_0 nk_3_0 fp_3_0 (by decide) pf_0_0 ?_
  refine ev_iload_n (pc1 := 5) rfl (TBof tbs_46 _ rfl) rfl ?_
  refine ev_callvI (pc1 := 8) (as := [.int v1]) (r := []) (TBof tbs_46 _ rfl) rfl (lnkof mo_46 ln_3_48) rfl na_18 ltc_1 (sh_1.trans (by rw [mo_18])) (Nat.le_of_ble_eq_true rfl) H (fun x1 M1 h1 D1 H => ?_)
  refine ev_if (pc1 := 11) (t := 13) (TBof tbs_46 _ rfl) (by decide) rfl (fun c2 => ?_) (fun c2 => ?_)
  · replace H := H.1 c2
    refine ev_aload_n (pc1 := 14) rfl rfl (TBof tbs_46 _ rfl) rfl ?_
    refine ev_getP (pc1 := 17) (ci := 3) (k := 0) (a := 1) (TBof tbs_46 _ rfl) rfl (fldof mo_46 fl_3_12) ltc_0 sh_0 nk_3_0 fp_3_0 (by decide) pf_0_0 ?_
    refine ev_getI (pc1 := 20) (ci := 2) (k := 1) (TBof tbs_46 _ rfl) rfl (fldof mo_46 fl_3_59) ltc_1 sh_1 nk_2_1 fi_2_1 ?_
    refine ev_if (pc1 := 23) (t := 26) (TBof tbs_46 _ rfl) (by decide) rfl (fun c3 => ?_) (fun c3 => ?_)
    · replace H := H.1 c3
      refine ev_aload_n (pc1 := 27) rfl rfl (TBof tbs_46 _ rfl) rfl ?_
      refine ev_getP (pc1 := 30) (ci := 3) (k := 0) (a := 1) (TBof tbs_46 _ rfl) rfl (fldof mo_46 fl_3_12) ltc_0 sh_0 nk_3_0 fp_3_0 (by decide) pf_0_0 ?_
      refine ev_iload_n (pc1 := 31) rfl (TBof tbs_46 _ rfl) rfl ?_
      refine ev_callvI (pc1 := 34) (as := [.int v1]) (r := []) (TBof tbs_46 _ rfl) rfl (lnkof mo_46 ln_3_150) rfl na_24 ltc_1 (sh_1.trans (by rw [mo_24])) (Nat.le_of_ble_eq_true rfl) H (fun x4 M4 h4 D4 H => ?_)
      refine ev_if (pc1 := 37) (t := 40) (TBof tbs_46 _ rfl) (by decide) rfl (fun c5 => ?_) (fun c5 => ?_)
      · replace H := H.1 c5
        refine ev_aload_n (pc1 := 41) rfl rfl (TBof tbs_46 _ rfl) rfl ?_
        refine ev_getP (pc1 := 44) (ci := 3) (k := 0) (a := 1) (TBof tbs_46 _ rfl) rfl (fldof mo_46 fl_3_12) ltc_0 sh_0 nk_3_0 fp_3_0 (by decide) pf_0_0 ?_
        refine ev_iload_n (pc1 := 45) rfl (TBof tbs_46 _ rfl) rfl ?_
        refine ev_callvI (pc1 := 48) (as := [.int v1]) (r := []) (TBof tbs_46 _ rfl) rfl (lnkof mo_46 ln_3_153) rfl na_25 ltc_1 (sh_1.trans (by rw [mo_25])) (Nat.le_of_ble_eq_true rfl) H (fun x6 M6 h6 D6 H => ?_)
        refine ev_if (pc1 := 51) (t := 54) (TBof tbs_46 _ rfl) (by decide) rfl (fun c7 => ?_) (fun c7 => ?_)
        · replace H := H.1 c7
          refine ev_aload_n (pc1 := 55) rfl rfl (TBof tbs_46 _ rfl) rfl ?_
          refine ev_callvV (pc1 := 58) (as := []) (r := []) (TBof tbs_46 _ rfl) rfl (lnkof mo_46 ln_3_62) rfl na_63 ltc_0 (sh_0.trans (by rw [mo_63])) (Nat.le_of_ble_eq_true rfl) H (fun M8 h8 D8 H => ?_)
          refine ev_aload_n (pc1 := 59) rfl rfl (TBof tbs_46 _ rfl) rfl ?_
          refine ev_getP (pc1 := 62) (ci := 3) (k := 0) (a := 1) (TBof tbs_46 _ rfl) rfl (fldof mo_46 fl_3_12) ltc_0 sh_0 nk_3_0 fp_3_0 (by decide) pf_0_0 ?_
          refine ev_getP (pc1 := 65) (ci := 2) (k := 12) (a := 7) (TBof tbs_46 _ rfl) rfl (fldof mo_46 fl_3_156) ltc_1 sh_1 nk_2_12 fp_2_12 (by decide) pf_1_12 ?_
          refine ev_iload_n (pc1 := 66) rfl (TBof tbs_46 _ rfl) rfl ?_
          refine ev_dup2 (pc1 := 67) rfl rfl (TBof tbs_46 _ rfl) rfl ?_
          refine ev_iaload (pc1 := 68) (n := 16) (TBof tbs_46 _ rfl) rfl ltc_7 sh_7 H.1 ?_
          replace H := H.2
          refine ev_iconst (pc1 := 69) (x := 1) (by decide) (TBof tbs_46 _ rfl) rfl ?_
          refine ev_iadd (pc1 := 70) (TBof tbs_46 _ rfl) rfl ?_
          refine ev_iastore (pc1 := 71) (n := 16) (TBof tbs_46 _ rfl) rfl ltc_7 sh_7 H.1 ?_
          replace H := H.2
          refine ev_aload_n (pc1 := 72) rfl rfl (TBof tbs_46 _ rfl) rfl ?_
          refine ev_getP (pc1 := 75) (ci := 3) (k := 0) (a := 1) (TBof tbs_46 _ rfl) rfl (fldof mo_46 fl_3_12) ltc_0 sh_0 nk_3_0 fp_3_0 (by decide) pf_0_0 ?_
          refine ev_bipush (pc1 := 77) (x := 10) (by decide) (TBof tbs_46 _ rfl) rfl ?_
          refine ev_callvV (pc1 := 80) (as := [.int 10]) (r := []) (TBof tbs_46 _ rfl) rfl (lnkof mo_46 ln_3_132) rfl na_29 ltc_1 (sh_1.trans (by rw [mo_29])) (Nat.le_of_ble_eq_true rfl) H (fun M9 h9 D9 H => ?_)
          refine ev_aload_n (pc1 := 81) rfl rfl (TBof tbs_46 _ rfl) rfl ?_
          refine ev_getP (pc1 := 84) (ci := 3) (k := 0) (a := 1) (TBof tbs_46 _ rfl) rfl (fldof mo_46 fl_3_12) ltc_0 sh_0 nk_3_0 fp_3_0 (by decide) pf_0_0 ?_
          refine ev_getP (pc1 := 87) (ci := 2) (k := 12) (a := 7) (TBof tbs_46 _ rfl) rfl (fldof mo_46 fl_3_156) ltc_1 sh_1 nk_2_12 fp_2_12 (by decide) pf_1_12 ?_
          refine ev_iload_n (pc1 := 88) rfl (TBof tbs_46 _ rfl) rfl ?_
          refine ev_iaload (pc1 := 89) (n := 16) (TBof tbs_46 _ rfl) rfl ltc_7 sh_7 H.1 ?_
          replace H := H.2
          exact ev_ireturn (TBof tbs_46 _ rfl) (retI_i rt_46) ⟨_, rfl, H⟩
        · replace H := H.2 c7
          refine ev_bipush (pc1 := 53) (x := (-4)) (by decide) (TBof tbs_46 _ rfl) rfl ?_
          exact ev_ireturn (TBof tbs_46 _ rfl) (retI_i rt_46) ⟨_, rfl, H⟩
      · replace H := H.2 c5
        refine ev_bipush (pc1 := 39) (x := (-5)) (by decide) (TBof tbs_46 _ rfl) rfl ?_
        exact ev_ireturn (TBof tbs_46 _ rfl) (retI_i rt_46) ⟨_, rfl, H⟩
    · replace H := H.2 c3
      refine ev_bipush (pc1 := 25) (x := (-4)) (by decide) (TBof tbs_46 _ rfl) rfl ?_
      exact ev_ireturn (TBof tbs_46 _ rfl) (retI_i rt_46) ⟨_, rfl, H⟩
  · replace H := H.2 c2
    refine ev_iconst (pc1 := 12) (x := (-1)) (by decide) (TBof tbs_46 _ rfl) rfl ?_
    exact ev_ireturn (TBof tbs_46 _ rfl) (retI_i rt_46) ⟨_, rfl, H⟩
set_option maxRecDepth 100000 in
theorem R_X3_take_0 {d : Nat} {v1 : Int32} {M : Im} {h : Hm} {D : Dm} {Q : Int32 → Im → Hm → Dm → Prop} (H : CI d nX3_isThing [.int v1] M h D (fun x1 M1 h1 D1 => ((¬ (x1 = 0)) → (((¬ ((M1 1 1) = 0)) → (CI d nX2_isInHand [.ref 1, .int v1] M1 h1 D1 (fun x4 M4 h4 D4 => ((x4 = 0) → (CI d nX2_canTake [.ref 1, .int v1] M4 h4 D4 (fun x6 M6 h6 D6 => ((¬ (x6 = 0)) → (CV d nX3_recordState [.ref 0] M6 h6 D6 (fun M8 h8 D8 => CI d nX3_bit [.int v1] M8 h8 D8 (fun x9 M9 h9 D9 => CV d nX2_addStep [.ref 1, .int 1] (up2 M9 1 6 ((M8 1 6) ||| x9)) h9 D9 (fun M10 h10 D10 => CI d nJ6_bitCount_0f7a4 [.int (M10 1 6)] M10 h10 D10 (fun x11 M11 h11 D11 => Q x11 M11 h11 D11)))))) ∧ (¬ (¬ (x6 = 0)) → (Q (-4) M6 h6 D6))))) ∧ (¬ (x4 = 0) → (Q (-5) M4 h4 D4))))) ∧ (¬ (¬ ((M1 1 1) = 0)) → (Q (-4) M1 h1 D1)))) ∧ (¬ (¬ (x1 = 0)) → (Q (-1) M1 h1 D1)))) : EvI d nX3_take 0 [(0, .ref 0), (1, .int v1)] [] M h D Q := by
  refine ev_iload_n (pc1 := 1) rfl (TBof tbs_47 _ rfl) rfl ?_
  refine ev_callsI (pc1 := 4) (as := [.int v1]) (r := []) (TBof tbs_47 _ rfl) rfl (lnkof mo_47 ln_3_97) (Or.inl rfl) rfl na_58 (Nat.le_of_ble_eq_true rfl) H (fun x1 M1 h1 D1 H => ?_)
  refine ev_if (pc1 := 7) (t := 9) (TBof tbs_47 _ rfl) (by decide) rfl (fun c2 => ?_) (fun c2 => ?_)
  · replace H := H.1 c2
    refine ev_aload_n (pc1 := 10) rfl rfl (TBof tbs_47 _ rfl) rfl ?_
    refine ev_getP (pc1 := 13) (ci := 3) (k := 0) (a := 1) (TBof tbs_47 _ rfl) rfl (fldof mo_47 fl_3_12) ltc_0 sh_0 nk_3_0 fp_3_0 (by decide) pf_0_0 ?_
    refine ev_getI (pc1 := 16) (ci := 2) (k := 1) (TBof tbs_47 _ rfl) rfl (fldof mo_47 fl_3_59) ltc_1 sh_1 nk_2_1 fi_2_1 ?_
    refine ev_if (pc1 := 19) (t := 22) (TBof tbs_47 _ rfl) (by decide) rfl (fun c3 => ?_) (fun c3 => ?_)
    · replace H := H.1 c3
      refine ev_aload_n (pc1 := 23) rfl rfl (TBof tbs_47 _ rfl) rfl ?_
      refine ev_getP (pc1 := 26) (ci := 3) (k := 0) (a := 1) (TBof tbs_47 _ rfl) rfl (fldof mo_47 fl_3_12) ltc_0 sh_0 nk_3_0 fp_3_0 (by decide) pf_0_0 ?_
      refine ev_iload_n (pc1 := 27) rfl (TBof tbs_47 _ rfl) rfl ?_
      refine ev_callvI (pc1 := 30) (as := [.int v1]) (r := []) (TBof tbs_47 _ rfl) rfl (lnkof mo_47 ln_3_159) rfl na_20 ltc_1 (sh_1.trans (by rw [mo_20])) (Nat.le_of_ble_eq_true rfl) H (fun x4 M4 h4 D4 H => ?_)
      refine ev_if (pc1 := 33) (t := 36) (TBof tbs_47 _ rfl) (by decide) rfl (fun c5 => ?_) (fun c5 => ?_)
      · replace H := H.1 c5
        refine ev_aload_n (pc1 := 37) rfl rfl (TBof tbs_47 _ rfl) rfl ?_
        refine ev_getP (pc1 := 40) (ci := 3) (k := 0) (a := 1) (TBof tbs_47 _ rfl) rfl (fldof mo_47 fl_3_12) ltc_0 sh_0 nk_3_0 fp_3_0 (by decide) pf_0_0 ?_
        refine ev_iload_n (pc1 := 41) rfl (TBof tbs_47 _ rfl) rfl ?_
        refine ev_callvI (pc1 := 44) (as := [.int v1]) (r := []) (TBof tbs_47 _ rfl) rfl (lnkof mo_47 ln_3_162) rfl na_26 ltc_1 (sh_1.trans (by rw [mo_26])) (Nat.le_of_ble_eq_true rfl) H (fun x6 M6 h6 D6 H => ?_)
        refine ev_if (pc1 := 47) (t := 50) (TBof tbs_47 _ rfl) (by decide) rfl (fun c7 => ?_) (fun c7 => ?_)
        · replace H := H.1 c7
          refine ev_aload_n (pc1 := 51) rfl rfl (TBof tbs_47 _ rfl) rfl ?_
          refine ev_callvV (pc1 := 54) (as := []) (r := []) (TBof tbs_47 _ rfl) rfl (lnkof mo_47 ln_3_62) rfl na_63 ltc_0 (sh_0.trans (by rw [mo_63])) (Nat.le_of_ble_eq_true rfl) H (fun M8 h8 D8 H => ?_)
          refine ev_aload_n (pc1 := 55) rfl rfl (TBof tbs_47 _ rfl) rfl ?_
          refine ev_getP (pc1 := 58) (ci := 3) (k := 0) (a := 1) (TBof tbs_47 _ rfl) rfl (fldof mo_47 fl_3_12) ltc_0 sh_0 nk_3_0 fp_3_0 (by decide) pf_0_0 ?_
          refine ev_dup (pc1 := 59) rfl (TBof tbs_47 _ rfl) rfl ?_
          refine ev_getI (pc1 := 62) (ci := 2) (k := 6) (TBof tbs_47 _ rfl) rfl (fldof mo_47 fl_3_165) ltc_1 sh_1 nk_2_6 fi_2_6 ?_
          refine ev_iload_n (pc1 := 63) rfl (TBof tbs_47 _ rfl) rfl ?_
          refine ev_callsI (pc1 := 66) (as := [.int v1]) (r := [.int (M8 1 6), .ref 1]) (TBof tbs_47 _ rfl) rfl (lnkof mo_47 ln_3_147) (Or.inl rfl) rfl na_60 (Nat.le_of_ble_eq_true rfl) H (fun x9 M9 h9 D9 H => ?_)
          refine ev_ior (pc1 := 67) (TBof tbs_47 _ rfl) rfl ?_
          refine ev_putI (pc1 := 70) (ci := 2) (k := 6) (TBof tbs_47 _ rfl) rfl (fldof mo_47 fl_3_165) ltc_1 sh_1 nk_2_6 rfl rfl ?_
          refine ev_aload_n (pc1 := 71) rfl rfl (TBof tbs_47 _ rfl) rfl ?_
          refine ev_getP (pc1 := 74) (ci := 3) (k := 0) (a := 1) (TBof tbs_47 _ rfl) rfl (fldof mo_47 fl_3_12) ltc_0 sh_0 nk_3_0 fp_3_0 (by decide) pf_0_0 ?_
          refine ev_iconst (pc1 := 75) (x := 1) (by decide) (TBof tbs_47 _ rfl) rfl ?_
          refine ev_callvV (pc1 := 78) (as := [.int 1]) (r := []) (TBof tbs_47 _ rfl) rfl (lnkof mo_47 ln_3_132) rfl na_29 ltc_1 (sh_1.trans (by rw [mo_29])) (Nat.le_of_ble_eq_true rfl) H (fun M10 h10 D10 H => ?_)
          refine ev_aload_n (pc1 := 79) rfl rfl (TBof tbs_47 _ rfl) rfl ?_
          refine ev_getP (pc1 := 82) (ci := 3) (k := 0) (a := 1) (TBof tbs_47 _ rfl) rfl (fldof mo_47 fl_3_12) ltc_0 sh_0 nk_3_0 fp_3_0 (by decide) pf_0_0 ?_
          refine ev_getI (pc1 := 85) (ci := 2) (k := 6) (TBof tbs_47 _ rfl) rfl (fldof mo_47 fl_3_165) ltc_1 sh_1 nk_2_6 fi_2_6 ?_
          refine ev_callsI (pc1 := 88) (as := [.int (M10 1 6)]) (r := []) (TBof tbs_47 _ rfl) rfl (lnkof mo_47 ln_3_138) (Or.inl rfl) rfl na_68 (Nat.le_of_ble_eq_true rfl) H (fun x11 M11 h11 D11 H => ?_)
          exact ev_ireturn (TBof tbs_47 _ rfl) (retI_i rt_47) ⟨_, rfl, H⟩
        · replace H := H.2 c7
          refine ev_bipush (pc1 := 49) (x := (-4)) (by decide) (TBof tbs_47 _ rfl) rfl ?_
          exact ev_ireturn (TBof tbs_47 _ rfl) (retI_i rt_47) ⟨_, rfl, H⟩
      · replace H := H.2 c5
        refine ev_bipush (pc1 := 35) (x := (-5)) (by decide) (TBof tbs_47 _ rfl) rfl ?_
        exact ev_ireturn (TBof tbs_47 _ rfl) (retI_i rt_47) ⟨_, rfl, H⟩
    · replace H := H.2 c3
      refine ev_bipush (pc1 := 21) (x := (-4)) (by decide) (TBof tbs_47 _ rfl) rfl ?_
      exact ev_ireturn (TBof tbs_47 _ rfl) (retI_i rt_47) ⟨_, rfl, H⟩
  · replace H := H.2 c2
    refine ev_iconst (pc1 := 8) (x := (-1)) (by decide) (TBof tbs_47 _ rfl) rfl ?_
    exact ev_ireturn (TBof tbs_47 _ rfl) (retI_i rt_47) ⟨_, rfl, H⟩
set_option maxRecDepth 100000 in
theorem R_X3_seal_0 {d : Nat} {v1 : Int32} {M : Im} {h : Hm} {D : Dm} {Q : Int32 → Im → Hm → Dm → Prop} (H : CI d nX2_isThere [.ref 1, .int v1] M h D (fun x1 M1 h1 D1 => ((¬ (x1 = 0)) → (((¬ ((M1 1 1) = 0)) → (CI d nX3_isIn [.int (M1 1 5), .int v1] M1 h1 D1 (fun x4 M4 h4 D4 => ((¬ (x4 = 0)) → (CI d nX2_canSeal [.ref 1, .int v1] M4 h4 D4 (fun x6 M6 h6 D6 => ((¬ (x6 = 0)) → (CV d nX3_recordState [.ref 0] M6 h6 D6 (fun M8 h8 D8 => CI d nX3_bit [.int v1] M8 h8 D8 (fun x9 M9 h9 D9 => CV d nX2_addStep [.ref 1, .int 12] (up2 M9 1 5 ((M8 1 5) &&& (x9 ^^^ (-1)))) h9 D9 (fun M10 h10 D10 => CI d nJ6_bitCount_0f7a4 [.int (M10 1 5)] M10 h10 D10 (fun x11 M11 h11 D11 => Q x11 M11 h11 D11)))))) ∧ (¬ (¬ (x6 = 0)) → (Q (-4) M6 h6 D6))))) ∧ (¬ (¬ (x4 = 0)) → (Q (-5) M4 h4 D4))))) ∧ (¬ (¬ ((M1 1 1) = 0)) → (Q (-4) M1 h1 D1)))) ∧ (¬ (¬ (x1 = 0)) → (Q (-1) M1 h1 D1)))) : EvI d nX3_seal 0 [(0, .ref 0), (1, .int v1)] [] M h D Q := by
  refine ev_aload_n (pc1 := 1) rfl rfl (TBof tbs_48 _ rfl) rfl ?_
  refine ev_getP (pc1 := 4) (ci := 3) (k := 0) (a := 1) (TBof tbs_48 _ rfl) rfl (fldof mo_48 fl_3_12) ltc_0 sh_0 nk_3_0 fp_3_0 (by decide) pf_0_0 ?_
  refine ev_iload_n (pc1 := 5) rfl (TBof tbs_48 _ rfl) rfl ?_
  refine ev_callvI (pc1 := 8) (as := [.int v1]) (r := []) (TBof tbs_48 _ rfl) rfl (lnkof mo_48 ln_3_48) rfl na_18 ltc_1 (sh_1.trans (by rw [mo_18])) (Nat.le_of_ble_eq_true rfl) H (fun x1 M1 h1 D1 H => ?_)
  refine ev_if (pc1 := 11) (t := 13) (TBof tbs_48 _ rfl) (by decide) rfl (fun c2 => ?_) (fun c2 => ?_)
  · replace H := H.1 c2
    refine ev_aload_n (pc1 := 14) rfl rfl (TBof tbs_48 _ rfl) rfl ?_
    refine ev_getP (pc1 := 17) (ci := 3) (k := 0) (a := 1) (TBof tbs_48 _ rfl) rfl (fldof mo_48 fl_3_12) ltc_0 sh_0 nk_3_0 fp_3_0 (by decide) pf_0_0 ?_
    refine ev_getI (pc1 := 20) (ci := 2) (k := 1) (TBof tbs_48 _ rfl) rfl (fldof mo_48 fl_3_59) ltc_1 sh_1 nk_2_1 fi_2_1 ?_
    refine ev_if (pc1 := 23) (t := 26) (TBof tbs_48 _ rfl) (by decide) rfl (fun c3 => ?_) (fun c3 => ?_)
    · replace H := H.1 c3
      refine ev_aload_n (pc1 := 27) rfl rfl (TBof tbs_48 _ rfl) rfl ?_
      refine ev_getP (pc1 := 30) (ci := 3) (k := 0) (a := 1) (TBof tbs_48 _ rfl) rfl (fldof mo_48 fl_3_12) ltc_0 sh_0 nk_3_0 fp_3_0 (by decide) pf_0_0 ?_
      refine ev_getI (pc1 := 33) (ci := 2) (k := 5) (TBof tbs_48 _ rfl) rfl (fldof mo_48 fl_3_168) ltc_1 sh_1 nk_2_5 fi_2_5 ?_
      refine ev_iload_n (pc1 := 34) rfl (TBof tbs_48 _ rfl) rfl ?_
      refine ev_callsI (pc1 := 37) (as := [.int (M1 1 5), .int v1]) (r := []) (TBof tbs_48 _ rfl) rfl (lnkof mo_48 ln_3_171) (Or.inl rfl) rfl na_61 (Nat.le_of_ble_eq_true rfl) H (fun x4 M4 h4 D4 H => ?_)
      refine ev_if (pc1 := 40) (t := 43) (TBof tbs_48 _ rfl) (by decide) rfl (fun c5 => ?_) (fun c5 => ?_)
      · replace H := H.1 c5
        refine ev_aload_n (pc1 := 44) rfl rfl (TBof tbs_48 _ rfl) rfl ?_
        refine ev_getP (pc1 := 47) (ci := 3) (k := 0) (a := 1) (TBof tbs_48 _ rfl) rfl (fldof mo_48 fl_3_12) ltc_0 sh_0 nk_3_0 fp_3_0 (by decide) pf_0_0 ?_
        refine ev_iload_n (pc1 := 48) rfl (TBof tbs_48 _ rfl) rfl ?_
        refine ev_callvI (pc1 := 51) (as := [.int v1]) (r := []) (TBof tbs_48 _ rfl) rfl (lnkof mo_48 ln_3_174) rfl na_27 ltc_1 (sh_1.trans (by rw [mo_27])) (Nat.le_of_ble_eq_true rfl) H (fun x6 M6 h6 D6 H => ?_)
        refine ev_if (pc1 := 54) (t := 57) (TBof tbs_48 _ rfl) (by decide) rfl (fun c7 => ?_) (fun c7 => ?_)
        · replace H := H.1 c7
          refine ev_aload_n (pc1 := 58) rfl rfl (TBof tbs_48 _ rfl) rfl ?_
          refine ev_callvV (pc1 := 61) (as := []) (r := []) (TBof tbs_48 _ rfl) rfl (lnkof mo_48 ln_3_62) rfl na_63 ltc_0 (sh_0.trans (by rw [mo_63])) (Nat.le_of_ble_eq_true rfl) H (fun M8 h8 D8 H => ?_)
          refine ev_aload_n (pc1 := 62) rfl rfl (TBof tbs_48 _ rfl) rfl ?_
          refine ev_getP (pc1 := 65) (ci := 3) (k := 0) (a := 1) (TBof tbs_48 _ rfl) rfl (fldof mo_48 fl_3_12) ltc_0 sh_0 nk_3_0 fp_3_0 (by decide) pf_0_0 ?_
          refine ev_dup (pc1 := 66) rfl (TBof tbs_48 _ rfl) rfl ?_
          refine ev_getI (pc1 := 69) (ci := 2) (k := 5) (TBof tbs_48 _ rfl) rfl (fldof mo_48 fl_3_168) ltc_1 sh_1 nk_2_5 fi_2_5 ?_
          refine ev_iload_n (pc1 := 70) rfl (TBof tbs_48 _ rfl) rfl ?_
          refine ev_callsI (pc1 := 73) (as := [.int v1]) (r := [.int (M8 1 5), .ref 1]) (TBof tbs_48 _ rfl) rfl (lnkof mo_48 ln_3_147) (Or.inl rfl) rfl na_60 (Nat.le_of_ble_eq_true rfl) H (fun x9 M9 h9 D9 H => ?_)
          refine ev_iconst (pc1 := 74) (x := (-1)) (by decide) (TBof tbs_48 _ rfl) rfl ?_
          refine ev_ixor (pc1 := 75) (TBof tbs_48 _ rfl) rfl ?_
          refine ev_iand (pc1 := 76) (TBof tbs_48 _ rfl) rfl ?_
          refine ev_putI (pc1 := 79) (ci := 2) (k := 5) (TBof tbs_48 _ rfl) rfl (fldof mo_48 fl_3_168) ltc_1 sh_1 nk_2_5 rfl rfl ?_
          refine ev_aload_n (pc1 := 80) rfl rfl (TBof tbs_48 _ rfl) rfl ?_
          refine ev_getP (pc1 := 83) (ci := 3) (k := 0) (a := 1) (TBof tbs_48 _ rfl) rfl (fldof mo_48 fl_3_12) ltc_0 sh_0 nk_3_0 fp_3_0 (by decide) pf_0_0 ?_
          refine ev_bipush (pc1 := 85) (x := 12) (by decide) (TBof tbs_48 _ rfl) rfl ?_
          refine ev_callvV (pc1 := 88) (as := [.int 12]) (r := []) (TBof tbs_48 _ rfl) rfl (lnkof mo_48 ln_3_132) rfl na_29 ltc_1 (sh_1.trans (by rw [mo_29])) (Nat.le_of_ble_eq_true rfl) H (fun M10 h10 D10 H => ?_)
          refine ev_aload_n (pc1 := 89) rfl rfl (TBof tbs_48 _ rfl) rfl ?_
          refine ev_getP (pc1 := 92) (ci := 3) (k := 0) (a := 1) (TBof tbs_48 _ rfl) rfl (fldof mo_48 fl_3_12) ltc_0 sh_0 nk_3_0 fp_3_0 (by decide) pf_0_0 ?_
          refine ev_getI (pc1 := 95) (ci := 2) (k := 5) (TBof tbs_48 _ rfl) rfl (fldof mo_48 fl_3_168) ltc_1 sh_1 nk_2_5 fi_2_5 ?_
          refine ev_callsI (pc1 := 98) (as := [.int (M10 1 5)]) (r := []) (TBof tbs_48 _ rfl) rfl (lnkof mo_48 ln_3_138) (Or.inl rfl) rfl na_68 (Nat.le_of_ble_eq_true rfl) H (fun x11 M11 h11 D11 H => ?_)
          exact ev_ireturn (TBof tbs_48 _ rfl) (retI_i rt_48) ⟨_, rfl, H⟩
        · replace H := H.2 c7
          refine ev_bipush (pc1 := 56) (x := (-4)) (by decide) (TBof tbs_48 _ rfl) rfl ?_
          exact ev_ireturn (TBof tbs_48 _ rfl) (retI_i rt_48) ⟨_, rfl, H⟩
      · replace H := H.2 c5
        refine ev_bipush (pc1 := 42) (x := (-5)) (by decide) (TBof tbs_48 _ rfl) rfl ?_
        exact ev_ireturn (TBof tbs_48 _ rfl) (retI_i rt_48) ⟨_, rfl, H⟩
    · replace H := H.2 c3
      refine ev_bipush (pc1 := 25) (x := (-4)) (by decide) (TBof tbs_48 _ rfl) rfl ?_
      exact ev_ireturn (TBof tbs_48 _ rfl) (retI_i rt_48) ⟨_, rfl, H⟩
  · replace H := H.2 c2
    refine ev_iconst (pc1 := 12) (x := (-1)) (by decide) (TBof tbs_48 _ rfl) rfl ?_
    exact ev_ireturn (TBof tbs_48 _ rfl) (retI_i rt_48) ⟨_, rfl, H⟩
set_option maxRecDepth 100000 in
theorem R_X3_undo_0 {d : Nat} {M : Im} {h : Hm} {D : Dm} {Q : Int32 → Im → Hm → Dm → Prop} (H : ((0 < (M 0 6)) → (vp_in ((up2 M 0 6 ((M 0 6) - 1)) 0 6) 4 ∧ (∃ a2, h (((up2 M 0 6 ((M 0 6) - 1)) 0 6).toNatClampNeg) = some a2 ∧ St a2 ∧ (CV d nX3_copyState [.ref a2, .ref 1] (up2 M 0 6 ((M 0 6) - 1)) h D (fun M3 h3 D3 => Q (M3 0 6) M3 h3 D3))))) ∧ (¬ (0 < (M 0 6)) → (Q (-5) M h D))) : EvI d nX3_undo 0 [(0, .ref 0)] [] M h D Q := by
  refine ev_aload_n (pc1 := 1) rfl rfl (TBof tbs_49 _ rfl) rfl ?_
  refine ev_getI (pc1 := 4) (ci := 3) (k := 6) (TBof tbs_49 _ rfl) rfl (fldof mo_49 fl_3_40) ltc_0 sh_0 nk_3_6 fi_3_6 ?_
  refine ev_if (pc1 := 7) (t := 10) (TBof tbs_49 _ rfl) (by decide) rfl (fun c1 => ?_) (fun c1 => ?_)
  · replace H := H.1 c1
    refine ev_aload_n (pc1 := 11) rfl rfl (TBof tbs_49 _ rfl) rfl ?_
    refine ev_dup (pc1 := 12) rfl (TBof tbs_49 _ rfl) rfl ?_
    refine ev_getI (pc1 := 15) (ci := 3) (k := 6) (TBof tbs_49 _ rfl) rfl (fldof mo_49 fl_3_40) ltc_0 sh_0 nk_3_6 fi_3_6 ?_
    refine ev_iconst (pc1 := 16) (x := 1) (by decide) (TBof tbs_49 _ rfl) rfl ?_
    refine ev_isub (pc1 := 17) (TBof tbs_49 _ rfl) rfl ?_
    refine ev_putI (pc1 := 20) (ci := 3) (k := 6) (TBof tbs_49 _ rfl) rfl (fldof mo_49 fl_3_40) ltc_0 sh_0 nk_3_6 rfl rfl ?_
    refine ev_aload_n (pc1 := 21) rfl rfl (TBof tbs_49 _ rfl) rfl ?_
    refine ev_getP (pc1 := 24) (ci := 3) (k := 3) (a := 28) (TBof tbs_49 _ rfl) rfl (fldof mo_49 fl_3_22) ltc_0 sh_0 nk_3_3 fp_3_3 (by decide) pf_0_3 ?_
    refine ev_aload_n (pc1 := 25) rfl rfl (TBof tbs_49 _ rfl) rfl ?_
    refine ev_getI (pc1 := 28) (ci := 3) (k := 6) (TBof tbs_49 _ rfl) rfl (fldof mo_49 fl_3_40) ltc_0 sh_0 nk_3_6 fi_3_6 ?_
    obtain ⟨g2, a2, f2, ha2, H⟩ := H
    refine ev_aaload (pc1 := 29) (TBof tbs_49 _ rfl) rfl g2 f2 ?_
    refine ev_aload_n (pc1 := 30) rfl rfl (TBof tbs_49 _ rfl) rfl ?_
    refine ev_getP (pc1 := 33) (ci := 3) (k := 0) (a := 1) (TBof tbs_49 _ rfl) rfl (fldof mo_49 fl_3_12) ltc_0 sh_0 nk_3_0 fp_3_0 (by decide) pf_0_0 ?_
    refine ev_callsV (pc1 := 36) (as := [.ref a2, .ref 1]) (r := []) (TBof tbs_49 _ rfl) rfl (lnkof mo_49 ln_3_184) (Or.inl rfl) rfl na_65 (Nat.le_of_ble_eq_true rfl) H (fun M3 h3 D3 H => ?_)
    refine ev_aload_n (pc1 := 37) rfl rfl (TBof tbs_49 _ rfl) rfl ?_
    refine ev_getI (pc1 := 40) (ci := 3) (k := 6) (TBof tbs_49 _ rfl) rfl (fldof mo_49 fl_3_40) ltc_0 sh_0 nk_3_6 fi_3_6 ?_
    exact ev_ireturn (TBof tbs_49 _ rfl) (retI_i rt_49) ⟨_, rfl, H⟩
  · replace H := H.2 c1
    refine ev_bipush (pc1 := 9) (x := (-5)) (by decide) (TBof tbs_49 _ rfl) rfl ?_
    exact ev_ireturn (TBof tbs_49 _ rfl) (retI_i rt_49) ⟨_, rfl, H⟩
set_option maxRecDepth 100000 in
theorem R_X3_drawer_0 {d : Nat} {v1 v2 : Int32} {M : Im} {h : Hm} {D : Dm} {Q : Int32 → Im → Hm → Dm → Prop} (H : CI d nX2_isThere [.ref 1, .int v1] M h D (fun x1 M1 h1 D1 => ((¬ (x1 = 0)) → (((v2.toInt < 0 ∨ 10 < v2.toInt) → (Q (-2) M1 h1 D1)) ∧ ((v2 = 0) → (vp_in v1 16 ∧ (Q (M1 2 (v1.toNatClampNeg)) M1 h1 D1))) ∧ ((v2 = 1) → (vp_in v1 16 ∧ (Q (M1 3 (v1.toNatClampNeg)) M1 h1 D1))) ∧ ((v2 = 2) → (vp_in v1 16 ∧ (Q (M1 4 (v1.toNatClampNeg)) M1 h1 D1))) ∧ ((v2 = 3) → (vp_in v1 16 ∧ (Q (M1 5 (v1.toNatClampNeg)) M1 h1 D1))) ∧ ((v2 = 4) → (vp_in v1 16 ∧ (Q (M1 6 (v1.toNatClampNeg)) M1 h1 D1))) ∧ ((v2 = 5) → (vp_in v1 16 ∧ (Q (M1 7 (v1.toNatClampNeg)) M1 h1 D1))) ∧ ((v2 = 6) → (CI d nX2_isOpen [.ref 1, .int v1] M1 h1 D1 (fun x4 M4 h4 D4 => CI d nX3_oneIf [.int x4] M4 h4 D4 (fun x5 M5 h5 D5 => Q x5 M5 h5 D5)))) ∧ ((v2 = 7) → (CI d nX3_isIn [.int (M1 1 5), .int v1] M1 h1 D1 (fun x6 M6 h6 D6 => CI d nX3_oneIf [.int x6] M6 h6 D6 (fun x7 M7 h7 D7 => Q x7 M7 h7 D7)))) ∧ ((v2 = 8) → (CI d nX2_isReached [.ref 1, .int v1] M1 h1 D1 (fun x8 M8 h8 D8 => CI d nX3_oneIf [.int x8] M8 h8 D8 (fun x9 M9 h9 D9 => Q x9 M9 h9 D9)))) ∧ ((v2 = 9) → (CI d nX2_countThingsIn [.ref 1, .int v1] M1 h1 D1 (fun x10 M10 h10 D10 => Q x10 M10 h10 D10))) ∧ ((v2 = 10) → (CI d nX2_countOuters [.ref 1, .int v1] M1 h1 D1 (fun x11 M11 h11 D11 => Q x11 M11 h11 D11))))) ∧ (¬ (¬ (x1 = 0)) → (Q (-1) M1 h1 D1)))) : EvI d nX3_drawer 0 [(0, .ref 0), (1, .int v1), (2, .int v2)] [] M h D Q := by
  refine ev_aload_n (pc1 := 1) rfl rfl (TBof tbs_50 _ rfl) rfl ?_
  refine ev_getP (pc1 := 4) (ci := 3) (k := 0) (a := 1) (TBof tbs_50 _ rfl) rfl (fldof mo_50 fl_3_12) ltc_0 sh_0 nk_3_0 fp_3_0 (by decide) pf_0_0 ?_
  refine ev_iload_n (pc1 := 5) rfl (TBof tbs_50 _ rfl) rfl ?_
  refine ev_callvI (pc1 := 8) (as := [.int v1]) (r := []) (TBof tbs_50 _ rfl) rfl (lnkof mo_50 ln_3_48) rfl na_18 ltc_1 (sh_1.trans (by rw [mo_18])) (Nat.le_of_ble_eq_true rfl) H (fun x1 M1 h1 D1 H => ?_)
  refine ev_if (pc1 := 11) (t := 13) (TBof tbs_50 _ rfl) (by decide) rfl (fun c2 => ?_) (fun c2 => ?_)
  · replace H := H.1 c2
    refine ev_iload_n (pc1 := 14) rfl (TBof tbs_50 _ rfl) rfl ?_
    refine ev_table (TBof tbs_50 _ rfl) (fun c3 => ⟨189, by decide, ?_⟩) (fun c3 => ?_)
    · replace H := H.1 c3
      refine ev_bipush (pc1 := 191) (x := (-2)) (by decide) (TBof tbs_50 _ rfl) rfl ?_
      exact ev_ireturn (TBof tbs_50 _ rfl) (retI_i rt_50) ⟨_, rfl, H⟩
    · have e3 : v2.toInt = 0 ∨ v2.toInt = 1 ∨ v2.toInt = 2 ∨ v2.toInt = 3 ∨ v2.toInt = 4 ∨ v2.toInt = 5 ∨ v2.toInt = 6 ∨ v2.toInt = 7 ∨ v2.toInt = 8 ∨ v2.toInt = 9 ∨ v2.toInt = 10 := by omega
      replace H := H.2
      rcases e3 with e3 | e3 | e3 | e3 | e3 | e3 | e3 | e3 | e3 | e3 | e3
      · refine ⟨58, 72, by rw [e3]; rfl, by decide, ?_⟩
        replace H := H.1 (Int32.toInt_inj.mp (by rw [e3]; decide))
        refine ev_aload_n (pc1 := 73) rfl rfl (TBof tbs_50 _ rfl) rfl ?_
        refine ev_getP (pc1 := 76) (ci := 3) (k := 0) (a := 1) (TBof tbs_50 _ rfl) rfl (fldof mo_50 fl_3_12) ltc_0 sh_0 nk_3_0 fp_3_0 (by decide) pf_0_0 ?_
        refine ev_getP (pc1 := 79) (ci := 2) (k := 7) (a := 2) (TBof tbs_50 _ rfl) rfl (fldof mo_50 fl_3_188) ltc_1 sh_1 nk_2_7 fp_2_7 (by decide) pf_1_7 ?_
        refine ev_iload_n (pc1 := 80) rfl (TBof tbs_50 _ rfl) rfl ?_
        refine ev_iaload (pc1 := 81) (n := 16) (TBof tbs_50 _ rfl) rfl ltc_2 sh_2 H.1 ?_
        replace H := H.2
        exact ev_ireturn (TBof tbs_50 _ rfl) (retI_i rt_50) ⟨_, rfl, H⟩
      · refine ⟨68, 82, by rw [e3]; rfl, by decide, ?_⟩
        replace H := H.2.1 (Int32.toInt_inj.mp (by rw [e3]; decide))
        refine ev_aload_n (pc1 := 83) rfl rfl (TBof tbs_50 _ rfl) rfl ?_
        refine ev_getP (pc1 := 86) (ci := 3) (k := 0) (a := 1) (TBof tbs_50 _ rfl) rfl (fldof mo_50 fl_3_12) ltc_0 sh_0 nk_3_0 fp_3_0 (by decide) pf_0_0 ?_
        refine ev_getP (pc1 := 89) (ci := 2) (k := 8) (a := 3) (TBof tbs_50 _ rfl) rfl (fldof mo_50 fl_3_189) ltc_1 sh_1 nk_2_8 fp_2_8 (by decide) pf_1_8 ?_
        refine ev_iload_n (pc1 := 90) rfl (TBof tbs_50 _ rfl) rfl ?_
        refine ev_iaload (pc1 := 91) (n := 16) (TBof tbs_50 _ rfl) rfl ltc_3 sh_3 H.1 ?_
        replace H := H.2
        exact ev_ireturn (TBof tbs_50 _ rfl) (retI_i rt_50) ⟨_, rfl, H⟩
      · refine ⟨78, 92, by rw [e3]; rfl, by decide, ?_⟩
        replace H := H.2.2.1 (Int32.toInt_inj.mp (by rw [e3]; decide))
        refine ev_aload_n (pc1 := 93) rfl rfl (TBof tbs_50 _ rfl) rfl ?_
        refine ev_getP (pc1 := 96) (ci := 3) (k := 0) (a := 1) (TBof tbs_50 _ rfl) rfl (fldof mo_50 fl_3_12) ltc_0 sh_0 nk_3_0 fp_3_0 (by decide) pf_0_0 ?_
        refine ev_getP (pc1 := 99) (ci := 2) (k := 9) (a := 4) (TBof tbs_50 _ rfl) rfl (fldof mo_50 fl_3_190) ltc_1 sh_1 nk_2_9 fp_2_9 (by decide) pf_1_9 ?_
        refine ev_iload_n (pc1 := 100) rfl (TBof tbs_50 _ rfl) rfl ?_
        refine ev_iaload (pc1 := 101) (n := 16) (TBof tbs_50 _ rfl) rfl ltc_4 sh_4 H.1 ?_
        replace H := H.2
        exact ev_ireturn (TBof tbs_50 _ rfl) (retI_i rt_50) ⟨_, rfl, H⟩
      · refine ⟨88, 102, by rw [e3]; rfl, by decide, ?_⟩
        replace H := H.2.2.2.1 (Int32.toInt_inj.mp (by rw [e3]; decide))
        refine ev_aload_n (pc1 := 103) rfl rfl (TBof tbs_50 _ rfl) rfl ?_
        refine ev_getP (pc1 := 106) (ci := 3) (k := 0) (a := 1) (TBof tbs_50 _ rfl) rfl (fldof mo_50 fl_3_12) ltc_0 sh_0 nk_3_0 fp_3_0 (by decide) pf_0_0 ?_
        refine ev_getP (pc1 := 109) (ci := 2) (k := 10) (a := 5) (TBof tbs_50 _ rfl) rfl (fldof mo_50 fl_3_129) ltc_1 sh_1 nk_2_10 fp_2_10 (by decide) pf_1_10 ?_
        refine ev_iload_n (pc1 := 110) rfl (TBof tbs_50 _ rfl) rfl ?_
        refine ev_iaload (pc1 := 111) (n := 16) (TBof tbs_50 _ rfl) rfl ltc_5 sh_5 H.1 ?_
        replace H := H.2
        exact ev_ireturn (TBof tbs_50 _ rfl) (retI_i rt_50) ⟨_, rfl, H⟩
      · refine ⟨98, 112, by rw [e3]; rfl, by decide, ?_⟩
        replace H := H.2.2.2.2.1 (Int32.toInt_inj.mp (by rw [e3]; decide))
        refine ev_aload_n (pc1 := 113) rfl rfl (TBof tbs_50 _ rfl) rfl ?_
        refine ev_getP (pc1 := 116) (ci := 3) (k := 0) (a := 1) (TBof tbs_50 _ rfl) rfl (fldof mo_50 fl_3_12) ltc_0 sh_0 nk_3_0 fp_3_0 (by decide) pf_0_0 ?_
        refine ev_getP (pc1 := 119) (ci := 2) (k := 11) (a := 6) (TBof tbs_50 _ rfl) rfl (fldof mo_50 fl_3_92) ltc_1 sh_1 nk_2_11 fp_2_11 (by decide) pf_1_11 ?_
        refine ev_iload_n (pc1 := 120) rfl (TBof tbs_50 _ rfl) rfl ?_
        refine ev_iaload (pc1 := 121) (n := 16) (TBof tbs_50 _ rfl) rfl ltc_6 sh_6 H.1 ?_
        replace H := H.2
        exact ev_ireturn (TBof tbs_50 _ rfl) (retI_i rt_50) ⟨_, rfl, H⟩
      · refine ⟨108, 122, by rw [e3]; rfl, by decide, ?_⟩
        replace H := H.2.2.2.2.2.1 (Int32.toInt_inj.mp (by rw [e3]; decide))
        refine ev_aload_n (pc1 := 123) rfl rfl (TBof tbs_50 _ rfl) rfl ?_
        refine ev_getP (pc1 := 126) (ci := 3) (k := 0) (a := 1) (TBof tbs_50 _ rfl) rfl (fldof mo_50 fl_3_12) ltc_0 sh_0 nk_3_0 fp_3_0 (by decide) pf_0_0 ?_
        refine ev_getP (pc1 := 129) (ci := 2) (k := 12) (a := 7) (TBof tbs_50 _ rfl) rfl (fldof mo_50 fl_3_156) ltc_1 sh_1 nk_2_12 fp_2_12 (by decide) pf_1_12 ?_
        refine ev_iload_n (pc1 := 130) rfl (TBof tbs_50 _ rfl) rfl ?_
        refine ev_iaload (pc1 := 131) (n := 16) (TBof tbs_50 _ rfl) rfl ltc_7 sh_7 H.1 ?_
        replace H := H.2
        exact ev_ireturn (TBof tbs_50 _ rfl) (retI_i rt_50) ⟨_, rfl, H⟩
      · refine ⟨118, 132, by rw [e3]; rfl, by decide, ?_⟩
        replace H := H.2.2.2.2.2.2.1 (Int32.toInt_inj.mp (by rw [e3]; decide))
        refine ev_aload_n (pc1 := 133) rfl rfl (TBof tbs_50 _ rfl) rfl ?_
        refine ev_getP (pc1 := 136) (ci := 3) (k := 0) (a := 1) (TBof tbs_50 _ rfl) rfl (fldof mo_50 fl_3_12) ltc_0 sh_0 nk_3_0 fp_3_0 (by decide) pf_0_0 ?_
        refine ev_iload_n (pc1 := 137) rfl (TBof tbs_50 _ rfl) rfl ?_
        refine ev_callvI (pc1 := 140) (as := [.int v1]) (r := []) (TBof tbs_50 _ rfl) rfl (lnkof mo_50 ln_3_119) rfl na_19 ltc_1 (sh_1.trans (by rw [mo_19])) (Nat.le_of_ble_eq_true rfl) H (fun x4 M4 h4 D4 H => ?_)
        refine ev_callsI (pc1 := 143) (as := [.int x4]) (r := []) (TBof tbs_50 _ rfl) rfl (lnkof mo_50 ln_3_191) (Or.inl rfl) rfl na_59 (Nat.le_of_ble_eq_true rfl) H (fun x5 M5 h5 D5 H => ?_)
        exact ev_ireturn (TBof tbs_50 _ rfl) (retI_i rt_50) ⟨_, rfl, H⟩
      · refine ⟨130, 144, by rw [e3]; rfl, by decide, ?_⟩
        replace H := H.2.2.2.2.2.2.2.1 (Int32.toInt_inj.mp (by rw [e3]; decide))
        refine ev_aload_n (pc1 := 145) rfl rfl (TBof tbs_50 _ rfl) rfl ?_
        refine ev_getP (pc1 := 148) (ci := 3) (k := 0) (a := 1) (TBof tbs_50 _ rfl) rfl (fldof mo_50 fl_3_12) ltc_0 sh_0 nk_3_0 fp_3_0 (by decide) pf_0_0 ?_
        refine ev_getI (pc1 := 151) (ci := 2) (k := 5) (TBof tbs_50 _ rfl) rfl (fldof mo_50 fl_3_168) ltc_1 sh_1 nk_2_5 fi_2_5 ?_
        refine ev_iload_n (pc1 := 152) rfl (TBof tbs_50 _ rfl) rfl ?_
        refine ev_callsI (pc1 := 155) (as := [.int (M1 1 5), .int v1]) (r := []) (TBof tbs_50 _ rfl) rfl (lnkof mo_50 ln_3_171) (Or.inl rfl) rfl na_61 (Nat.le_of_ble_eq_true rfl) H (fun x6 M6 h6 D6 H => ?_)
        refine ev_callsI (pc1 := 158) (as := [.int x6]) (r := []) (TBof tbs_50 _ rfl) rfl (lnkof mo_50 ln_3_191) (Or.inl rfl) rfl na_59 (Nat.le_of_ble_eq_true rfl) H (fun x7 M7 h7 D7 H => ?_)
        exact ev_ireturn (TBof tbs_50 _ rfl) (retI_i rt_50) ⟨_, rfl, H⟩
      · refine ⟨145, 159, by rw [e3]; rfl, by decide, ?_⟩
        replace H := H.2.2.2.2.2.2.2.2.1 (Int32.toInt_inj.mp (by rw [e3]; decide))
        refine ev_aload_n (pc1 := 160) rfl rfl (TBof tbs_50 _ rfl) rfl ?_
        refine ev_getP (pc1 := 163) (ci := 3) (k := 0) (a := 1) (TBof tbs_50 _ rfl) rfl (fldof mo_50 fl_3_12) ltc_0 sh_0 nk_3_0 fp_3_0 (by decide) pf_0_0 ?_
        refine ev_iload_n (pc1 := 164) rfl (TBof tbs_50 _ rfl) rfl ?_
        refine ev_callvI (pc1 := 167) (as := [.int v1]) (r := []) (TBof tbs_50 _ rfl) rfl (lnkof mo_50 ln_3_144) rfl na_21 ltc_1 (sh_1.trans (by rw [mo_21])) (Nat.le_of_ble_eq_true rfl) H (fun x8 M8 h8 D8 H => ?_)
        refine ev_callsI (pc1 := 170) (as := [.int x8]) (r := []) (TBof tbs_50 _ rfl) rfl (lnkof mo_50 ln_3_191) (Or.inl rfl) rfl na_59 (Nat.le_of_ble_eq_true rfl) H (fun x9 M9 h9 D9 H => ?_)
        exact ev_ireturn (TBof tbs_50 _ rfl) (retI_i rt_50) ⟨_, rfl, H⟩
      · refine ⟨157, 171, by rw [e3]; rfl, by decide, ?_⟩
        replace H := H.2.2.2.2.2.2.2.2.2.1 (Int32.toInt_inj.mp (by rw [e3]; decide))
        refine ev_aload_n (pc1 := 172) rfl rfl (TBof tbs_50 _ rfl) rfl ?_
        refine ev_getP (pc1 := 175) (ci := 3) (k := 0) (a := 1) (TBof tbs_50 _ rfl) rfl (fldof mo_50 fl_3_12) ltc_0 sh_0 nk_3_0 fp_3_0 (by decide) pf_0_0 ?_
        refine ev_iload_n (pc1 := 176) rfl (TBof tbs_50 _ rfl) rfl ?_
        refine ev_callvI (pc1 := 179) (as := [.int v1]) (r := []) (TBof tbs_50 _ rfl) rfl (lnkof mo_50 ln_3_195) rfl na_36 ltc_1 (sh_1.trans (by rw [mo_36])) (Nat.le_of_ble_eq_true rfl) H (fun x10 M10 h10 D10 H => ?_)
        exact ev_ireturn (TBof tbs_50 _ rfl) (retI_i rt_50) ⟨_, rfl, H⟩
      · refine ⟨166, 180, by rw [e3]; rfl, by decide, ?_⟩
        replace H := H.2.2.2.2.2.2.2.2.2.2 (Int32.toInt_inj.mp (by rw [e3]; decide))
        refine ev_aload_n (pc1 := 181) rfl rfl (TBof tbs_50 _ rfl) rfl ?_
        refine ev_getP (pc1 := 184) (ci := 3) (k := 0) (a := 1) (TBof tbs_50 _ rfl) rfl (fldof mo_50 fl_3_12) ltc_0 sh_0 nk_3_0 fp_3_0 (by decide) pf_0_0 ?_
        refine ev_iload_n (pc1 := 185) rfl (TBof tbs_50 _ rfl) rfl ?_
        refine ev_callvI (pc1 := 188) (as := [.int v1]) (r := []) (TBof tbs_50 _ rfl) rfl (lnkof mo_50 ln_3_198) rfl na_37 ltc_1 (sh_1.trans (by rw [mo_37])) (Nat.le_of_ble_eq_true rfl) H (fun x11 M11 h11 D11 H => ?_)
        exact ev_ireturn (TBof tbs_50 _ rfl) (retI_i rt_50) ⟨_, rfl, H⟩
  · replace H := H.2 c2
    refine ev_iconst (pc1 := 12) (x := (-1)) (by decide) (TBof tbs_50 _ rfl) rfl ?_
    exact ev_ireturn (TBof tbs_50 _ rfl) (retI_i rt_50) ⟨_, rfl, H⟩
set_option maxRecDepth 100000 in
theorem R_X3_thing_0 {d : Nat} {v1 v2 : Int32} {M : Im} {h : Hm} {D : Dm} {Q : Int32 → Im → Hm → Dm → Prop} (H : CI d nX3_isThing [.int v1] M h D (fun x1 M1 h1 D1 => ((¬ (x1 = 0)) → (CI d nX2_isInHand [.ref 1, .int v1] M1 h1 D1 (fun x3 M3 h3 D3 => ((v2.toInt < 0 ∨ 3 < v2.toInt) → (Q (-2) M3 h3 D3)) ∧ ((v2 = 0) → (((x3 = 0) → (vp_in v1 12 ∧ (Q (M3 8 (v1.toNatClampNeg)) M3 h3 D3))) ∧ (¬ (x3 = 0) → (Q (-5) M3 h3 D3)))) ∧ ((v2 = 1) → (((x3 = 0) → (vp_in v1 12 ∧ (Q (M3 9 (v1.toNatClampNeg)) M3 h3 D3))) ∧ (¬ (x3 = 0) → (Q 0 M3 h3 D3)))) ∧ ((v2 = 2) → (CI d nX3_oneIf [.int x3] M3 h3 D3 (fun x7 M7 h7 D7 => Q x7 M7 h7 D7))) ∧ ((v2 = 3) → ((((M3 1 1) = 0) → (CI d nX3_oneIf [.int 0] M3 h3 D3 (fun x9 M9 h9 D9 => Q x9 M9 h9 D9))) ∧ (¬ ((M3 1 1) = 0) → (CI d nX2_canTake [.ref 1, .int v1] M3 h3 D3 (fun x10 M10 h10 D10 => ((x10 = 0) → (CI d nX3_oneIf [.int 0] M10 h10 D10 (fun x12 M12 h12 D12 => Q x12 M12 h12 D12))) ∧ (¬ (x10 = 0) → (CI d nX3_oneIf [.int 1] M10 h10 D10 (fun x13 M13 h13 D13 => Q x13 M13 h13 D13))))))))))) ∧ (¬ (¬ (x1 = 0)) → (Q (-1) M1 h1 D1)))) : EvI d nX3_thing 0 [(0, .ref 0), (1, .int v1), (2, .int v2)] [] M h D Q := by
  refine ev_iload_n (pc1 := 1) rfl (TBof tbs_51 _ rfl) rfl ?_
  refine ev_callsI (pc1 := 4) (as := [.int v1]) (r := []) (TBof tbs_51 _ rfl) rfl (lnkof mo_51 ln_3_97) (Or.inl rfl) rfl na_58 (Nat.le_of_ble_eq_true rfl) H (fun x1 M1 h1 D1 H => ?_)
  refine ev_if (pc1 := 7) (t := 9) (TBof tbs_51 _ rfl) (by decide) rfl (fun c2 => ?_) (fun c2 => ?_)
  · replace H := H.1 c2
    refine ev_aload_n (pc1 := 10) rfl rfl (TBof tbs_51 _ rfl) rfl ?_
    refine ev_getP (pc1 := 13) (ci := 3) (k := 0) (a := 1) (TBof tbs_51 _ rfl) rfl (fldof mo_51 fl_3_12) ltc_0 sh_0 nk_3_0 fp_3_0 (by decide) pf_0_0 ?_
    refine ev_iload_n (pc1 := 14) rfl (TBof tbs_51 _ rfl) rfl ?_
    refine ev_callvI (pc1 := 17) (as := [.int v1]) (r := []) (TBof tbs_51 _ rfl) rfl (lnkof mo_51 ln_3_159) rfl na_20 ltc_1 (sh_1.trans (by rw [mo_20])) (Nat.le_of_ble_eq_true rfl) H (fun x3 M3 h3 D3 H => ?_)
    refine ev_istore_n (pc1 := 18) (L1 := [(3, .int x3), (0, .ref 0), (1, .int v1), (2, .int v2)]) (by rw [ml_51]; decide) rfl (TBof tbs_51 _ rfl) rfl ?_
    refine ev_iload_n (pc1 := 19) rfl (TBof tbs_51 _ rfl) rfl ?_
    refine ev_table (TBof tbs_51 _ rfl) (fun c4 => ⟨120, by decide, ?_⟩) (fun c4 => ?_)
    · replace H := H.1 c4
      refine ev_bipush (pc1 := 122) (x := (-2)) (by decide) (TBof tbs_51 _ rfl) rfl ?_
      exact ev_ireturn (TBof tbs_51 _ rfl) (retI_i rt_51) ⟨_, rfl, H⟩
    · have e4 : v2.toInt = 0 ∨ v2.toInt = 1 ∨ v2.toInt = 2 ∨ v2.toInt = 3 := by omega
      replace H := H.2
      rcases e4 with e4 | e4 | e4 | e4
      · refine ⟨29, 48, by rw [e4]; rfl, by decide, ?_⟩
        replace H := H.1 (Int32.toInt_inj.mp (by rw [e4]; decide))
        refine ev_iload_n (pc1 := 49) rfl (TBof tbs_51 _ rfl) rfl ?_
        refine ev_if (pc1 := 52) (t := 57) (TBof tbs_51 _ rfl) (by decide) rfl (fun c5 => ?_) (fun c5 => ?_)
        · replace H := H.1 c5
          refine ev_aload_n (pc1 := 58) rfl rfl (TBof tbs_51 _ rfl) rfl ?_
          refine ev_getP (pc1 := 61) (ci := 3) (k := 0) (a := 1) (TBof tbs_51 _ rfl) rfl (fldof mo_51 fl_3_12) ltc_0 sh_0 nk_3_0 fp_3_0 (by decide) pf_0_0 ?_
          refine ev_getP (pc1 := 64) (ci := 2) (k := 13) (a := 8) (TBof tbs_51 _ rfl) rfl (fldof mo_51 fl_3_100) ltc_1 sh_1 nk_2_13 fp_2_13 (by decide) pf_1_13 ?_
          refine ev_iload_n (pc1 := 65) rfl (TBof tbs_51 _ rfl) rfl ?_
          refine ev_iaload (pc1 := 66) (n := 12) (TBof tbs_51 _ rfl) rfl ltc_8 sh_8 H.1 ?_
          replace H := H.2
          exact ev_ireturn (TBof tbs_51 _ rfl) (retI_i rt_51) ⟨_, rfl, H⟩
        · replace H := H.2 c5
          refine ev_bipush (pc1 := 54) (x := (-5)) (by decide) (TBof tbs_51 _ rfl) rfl ?_
          refine ev_goto (pc1 := 66) (TBof tbs_51 _ rfl) (by decide) ?_
          exact ev_ireturn (TBof tbs_51 _ rfl) (retI_i rt_51) ⟨_, rfl, H⟩
      · refine ⟨48, 67, by rw [e4]; rfl, by decide, ?_⟩
        replace H := H.2.1 (Int32.toInt_inj.mp (by rw [e4]; decide))
        refine ev_iload_n (pc1 := 68) rfl (TBof tbs_51 _ rfl) rfl ?_
        refine ev_if (pc1 := 71) (t := 75) (TBof tbs_51 _ rfl) (by decide) rfl (fun c6 => ?_) (fun c6 => ?_)
        · replace H := H.1 c6
          refine ev_aload_n (pc1 := 76) rfl rfl (TBof tbs_51 _ rfl) rfl ?_
          refine ev_getP (pc1 := 79) (ci := 3) (k := 0) (a := 1) (TBof tbs_51 _ rfl) rfl (fldof mo_51 fl_3_12) ltc_0 sh_0 nk_3_0 fp_3_0 (by decide) pf_0_0 ?_
          refine ev_getP (pc1 := 82) (ci := 2) (k := 14) (a := 9) (TBof tbs_51 _ rfl) rfl (fldof mo_51 fl_3_103) ltc_1 sh_1 nk_2_14 fp_2_14 (by decide) pf_1_14 ?_
          refine ev_iload_n (pc1 := 83) rfl (TBof tbs_51 _ rfl) rfl ?_
          refine ev_iaload (pc1 := 84) (n := 12) (TBof tbs_51 _ rfl) rfl ltc_9 sh_9 H.1 ?_
          replace H := H.2
          exact ev_ireturn (TBof tbs_51 _ rfl) (retI_i rt_51) ⟨_, rfl, H⟩
        · replace H := H.2 c6
          refine ev_iconst (pc1 := 72) (x := 0) (by decide) (TBof tbs_51 _ rfl) rfl ?_
          refine ev_goto (pc1 := 84) (TBof tbs_51 _ rfl) (by decide) ?_
          exact ev_ireturn (TBof tbs_51 _ rfl) (retI_i rt_51) ⟨_, rfl, H⟩
      · refine ⟨66, 85, by rw [e4]; rfl, by decide, ?_⟩
        replace H := H.2.2.1 (Int32.toInt_inj.mp (by rw [e4]; decide))
        refine ev_iload_n (pc1 := 86) rfl (TBof tbs_51 _ rfl) rfl ?_
        refine ev_callsI (pc1 := 89) (as := [.int x3]) (r := []) (TBof tbs_51 _ rfl) rfl (lnkof mo_51 ln_3_191) (Or.inl rfl) rfl na_59 (Nat.le_of_ble_eq_true rfl) H (fun x7 M7 h7 D7 H => ?_)
        exact ev_ireturn (TBof tbs_51 _ rfl) (retI_i rt_51) ⟨_, rfl, H⟩
      · refine ⟨71, 90, by rw [e4]; rfl, by decide, ?_⟩
        replace H := H.2.2.2 (Int32.toInt_inj.mp (by rw [e4]; decide))
        refine ev_aload_n (pc1 := 91) rfl rfl (TBof tbs_51 _ rfl) rfl ?_
        refine ev_getP (pc1 := 94) (ci := 3) (k := 0) (a := 1) (TBof tbs_51 _ rfl) rfl (fldof mo_51 fl_3_12) ltc_0 sh_0 nk_3_0 fp_3_0 (by decide) pf_0_0 ?_
        refine ev_getI (pc1 := 97) (ci := 2) (k := 1) (TBof tbs_51 _ rfl) rfl (fldof mo_51 fl_3_59) ltc_1 sh_1 nk_2_1 fi_2_1 ?_
        refine ev_if (pc1 := 100) (t := 115) (TBof tbs_51 _ rfl) (by decide) rfl (fun c8 => ?_) (fun c8 => ?_)
        · replace H := H.1 c8
          refine ev_iconst (pc1 := 116) (x := 0) (by decide) (TBof tbs_51 _ rfl) rfl ?_
          refine ev_callsI (pc1 := 119) (as := [.int 0]) (r := []) (TBof tbs_51 _ rfl) rfl (lnkof mo_51 ln_3_191) (Or.inl rfl) rfl na_59 (Nat.le_of_ble_eq_true rfl) H (fun x9 M9 h9 D9 H => ?_)
          exact ev_ireturn (TBof tbs_51 _ rfl) (retI_i rt_51) ⟨_, rfl, H⟩
        · replace H := H.2 c8
          refine ev_aload_n (pc1 := 101) rfl rfl (TBof tbs_51 _ rfl) rfl ?_
          refine ev_getP (pc1 := 104) (ci := 3) (k := 0) (a := 1) (TBof tbs_51 _ rfl) rfl (fldof mo_51 fl_3_12) ltc_0 sh_0 nk_3_0 fp_3_0 (by decide) pf_0_0 ?_
          refine ev_iload_n (pc1 := 105) rfl (TBof tbs_51 _ rfl) rfl ?_
          refine ev_callvI (pc1 := 108) (as := [.int v1]) (r := []) (TBof tbs_51 _ rfl) rfl (lnkof mo_51 ln_3_162) rfl na_26 ltc_1 (sh_1.trans (by rw [mo_26])) (Nat.le_of_ble_eq_true rfl) H (fun x10 M10 h10 D10 H => ?_)
          refine ev_if (pc1 := 111) (t := 115) (TBof tbs_51 _ rfl) (by decide) rfl (fun c11 => ?_) (fun c11 => ?_)
          · replace H := H.1 c11
            refine ev_iconst (pc1 := 116) (x := 0) (by decide) (TBof tbs_51 _ rfl) rfl ?_
            refine ev_callsI (pc1 := 119) (as := [.int 0]) (r := []) (TBof tbs_51 _ rfl) rfl (lnkof mo_51 ln_3_191) (Or.inl rfl) rfl na_59 (Nat.le_of_ble_eq_true rfl) H (fun x12 M12 h12 D12 H => ?_)
            exact ev_ireturn (TBof tbs_51 _ rfl) (retI_i rt_51) ⟨_, rfl, H⟩
          · replace H := H.2 c11
            refine ev_iconst (pc1 := 112) (x := 1) (by decide) (TBof tbs_51 _ rfl) rfl ?_
            refine ev_goto (pc1 := 116) (TBof tbs_51 _ rfl) (by decide) ?_
            refine ev_callsI (pc1 := 119) (as := [.int 1]) (r := []) (TBof tbs_51 _ rfl) rfl (lnkof mo_51 ln_3_191) (Or.inl rfl) rfl na_59 (Nat.le_of_ble_eq_true rfl) H (fun x13 M13 h13 D13 H => ?_)
            exact ev_ireturn (TBof tbs_51 _ rfl) (retI_i rt_51) ⟨_, rfl, H⟩
  · replace H := H.2 c2
    refine ev_iconst (pc1 := 8) (x := (-1)) (by decide) (TBof tbs_51 _ rfl) rfl ?_
    exact ev_ireturn (TBof tbs_51 _ rfl) (retI_i rt_51) ⟨_, rfl, H⟩
set_option maxRecDepth 100000 in
theorem R_X3_needs_0 {d : Nat} {v1 v2 : Int32} {M : Im} {h : Hm} {D : Dm} {Q : Int32 → Im → Hm → Dm → Prop} (H : CI d nX2_isThere [.ref 1, .int v1] M h D (fun x1 M1 h1 D1 => ((¬ (x1 = 0)) → (((v2 < 0) → (Q (-2) M1 h1 D1)) ∧ (¬ (v2 < 0) → (((v2 ≤ 4) → (CI d nX3_canComeTo [.ref 0, .int v1] M1 h1 D1 (fun x5 M5 h5 D5 => ((¬ (x5 = 0)) → (CV d nX1_make [.ref 29, .ref 1, .int v1] M5 h5 D5 (fun M7 h7 D7 => ((v2.toInt < 0 ∨ 3 < v2.toInt) → (CI d nX2_countWholeSeals [.ref 1, .int (M7 29 0)] M7 h7 D7 (fun x8 M8 h8 D8 => Q x8 M8 h8 D8))) ∧ ((v2 = 0) → (CI d nX1_countSteps [.ref 29, .ref 1] M7 h7 D7 (fun x10 M10 h10 D10 => Q x10 M10 h10 D10))) ∧ ((v2 = 1) → (Q (M7 29 0) M7 h7 D7)) ∧ ((v2 = 2) → (Q (M7 29 1) M7 h7 D7)) ∧ ((v2 = 3) → (CI d nX1_countLiftings [.ref 29, .ref 1] M7 h7 D7 (fun x11 M11 h11 D11 => Q x11 M11 h11 D11)))))) ∧ (¬ (¬ (x5 = 0)) → (Q (-4) M5 h5 D5))))) ∧ (¬ (v2 ≤ 4) → (Q (-2) M1 h1 D1)))))) ∧ (¬ (¬ (x1 = 0)) → (Q (-1) M1 h1 D1)))) : EvI d nX3_needs 0 [(0, .ref 0), (1, .int v1), (2, .int v2)] [] M h D Q := by
  refine ev_aload_n (pc1 := 1) rfl rfl (TBof tbs_52 _ rfl) rfl ?_
  refine ev_getP (pc1 := 4) (ci := 3) (k := 0) (a := 1) (TBof tbs_52 _ rfl) rfl (fldof mo_52 fl_3_12) ltc_0 sh_0 nk_3_0 fp_3_0 (by decide) pf_0_0 ?_
  refine ev_iload_n (pc1 := 5) rfl (TBof tbs_52 _ rfl) rfl ?_
  refine ev_callvI (pc1 := 8) (as := [.int v1]) (r := []) (TBof tbs_52 _ rfl) rfl (lnkof mo_52 ln_3_48) rfl na_18 ltc_1 (sh_1.trans (by rw [mo_18])) (Nat.le_of_ble_eq_true rfl) H (fun x1 M1 h1 D1 H => ?_)
  refine ev_if (pc1 := 11) (t := 13) (TBof tbs_52 _ rfl) (by decide) rfl (fun c2 => ?_) (fun c2 => ?_)
  · replace H := H.1 c2
    refine ev_iload_n (pc1 := 14) rfl (TBof tbs_52 _ rfl) rfl ?_
    refine ev_if (pc1 := 17) (t := 22) (TBof tbs_52 _ rfl) (by decide) rfl (fun c3 => ?_) (fun c3 => ?_)
    · replace H := H.1 c3
      refine ev_bipush (pc1 := 24) (x := (-2)) (by decide) (TBof tbs_52 _ rfl) rfl ?_
      exact ev_ireturn (TBof tbs_52 _ rfl) (retI_i rt_52) ⟨_, rfl, H⟩
    · replace H := H.2 c3
      refine ev_iload_n (pc1 := 18) rfl (TBof tbs_52 _ rfl) rfl ?_
      refine ev_iconst (pc1 := 19) (x := 4) (by decide) (TBof tbs_52 _ rfl) rfl ?_
      refine ev_icmp (pc1 := 22) (t := 25) (TBof tbs_52 _ rfl) (by decide) rfl (fun c4 => ?_) (fun c4 => ?_)
      · replace H := H.1 c4
        refine ev_aload_n (pc1 := 26) rfl rfl (TBof tbs_52 _ rfl) rfl ?_
        refine ev_iload_n (pc1 := 27) rfl (TBof tbs_52 _ rfl) rfl ?_
        refine ev_callvI (pc1 := 30) (as := [.int v1]) (r := []) (TBof tbs_52 _ rfl) rfl (lnkof mo_52 ln_3_201) rfl na_66 ltc_0 (sh_0.trans (by rw [mo_66])) (Nat.le_of_ble_eq_true rfl) H (fun x5 M5 h5 D5 H => ?_)
        refine ev_if (pc1 := 33) (t := 36) (TBof tbs_52 _ rfl) (by decide) rfl (fun c6 => ?_) (fun c6 => ?_)
        · replace H := H.1 c6
          refine ev_aload_n (pc1 := 37) rfl rfl (TBof tbs_52 _ rfl) rfl ?_
          refine ev_getP (pc1 := 40) (ci := 3) (k := 4) (a := 29) (TBof tbs_52 _ rfl) rfl (fldof mo_52 fl_3_29) ltc_0 sh_0 nk_3_4 fp_3_4 (by decide) pf_0_4 ?_
          refine ev_aload_n (pc1 := 41) rfl rfl (TBof tbs_52 _ rfl) rfl ?_
          refine ev_getP (pc1 := 44) (ci := 3) (k := 0) (a := 1) (TBof tbs_52 _ rfl) rfl (fldof mo_52 fl_3_12) ltc_0 sh_0 nk_3_0 fp_3_0 (by decide) pf_0_0 ?_
          refine ev_iload_n (pc1 := 45) rfl (TBof tbs_52 _ rfl) rfl ?_
          refine ev_callvV (pc1 := 48) (as := [.ref 1, .int v1]) (r := []) (TBof tbs_52 _ rfl) rfl (lnkof mo_52 ln_3_204) rfl na_2 ltc_29 (sh_29.trans (by rw [mo_2])) (Nat.le_of_ble_eq_true rfl) H (fun M7 h7 D7 H => ?_)
          refine ev_iload_n (pc1 := 49) rfl (TBof tbs_52 _ rfl) rfl ?_
          refine ev_table (TBof tbs_52 _ rfl) (fun c9 => ⟨120, by decide, ?_⟩) (fun c9 => ?_)
          · replace H := H.1 c9
            refine ev_aload_n (pc1 := 121) rfl rfl (TBof tbs_52 _ rfl) rfl ?_
            refine ev_getP (pc1 := 124) (ci := 3) (k := 0) (a := 1) (TBof tbs_52 _ rfl) rfl (fldof mo_52 fl_3_12) ltc_0 sh_0 nk_3_0 fp_3_0 (by decide) pf_0_0 ?_
            refine ev_aload_n (pc1 := 125) rfl rfl (TBof tbs_52 _ rfl) rfl ?_
            refine ev_getP (pc1 := 128) (ci := 3) (k := 4) (a := 29) (TBof tbs_52 _ rfl) rfl (fldof mo_52 fl_3_29) ltc_0 sh_0 nk_3_4 fp_3_4 (by decide) pf_0_4 ?_
            refine ev_getI (pc1 := 131) (ci := 1) (k := 0) (TBof tbs_52 _ rfl) rfl (fldof mo_52 fl_3_212) ltc_29 sh_29 nk_1_0 fi_1_0 ?_
            refine ev_callvI (pc1 := 134) (as := [.int (M7 29 0)]) (r := []) (TBof tbs_52 _ rfl) rfl (lnkof mo_52 ln_3_221) rfl na_34 ltc_1 (sh_1.trans (by rw [mo_34])) (Nat.le_of_ble_eq_true rfl) H (fun x8 M8 h8 D8 H => ?_)
            exact ev_ireturn (TBof tbs_52 _ rfl) (retI_i rt_52) ⟨_, rfl, H⟩
          · have e9 : v2.toInt = 0 ∨ v2.toInt = 1 ∨ v2.toInt = 2 ∨ v2.toInt = 3 := by omega
            replace H := H.2
            rcases e9 with e9 | e9 | e9 | e9
            · refine ⟨31, 80, by rw [e9]; rfl, by decide, ?_⟩
              replace H := H.1 (Int32.toInt_inj.mp (by rw [e9]; decide))
              refine ev_aload_n (pc1 := 81) rfl rfl (TBof tbs_52 _ rfl) rfl ?_
              refine ev_getP (pc1 := 84) (ci := 3) (k := 4) (a := 29) (TBof tbs_52 _ rfl) rfl (fldof mo_52 fl_3_29) ltc_0 sh_0 nk_3_4 fp_3_4 (by decide) pf_0_4 ?_
              refine ev_aload_n (pc1 := 85) rfl rfl (TBof tbs_52 _ rfl) rfl ?_
              refine ev_getP (pc1 := 88) (ci := 3) (k := 0) (a := 1) (TBof tbs_52 _ rfl) rfl (fldof mo_52 fl_3_12) ltc_0 sh_0 nk_3_0 fp_3_0 (by decide) pf_0_0 ?_
              refine ev_callvI (pc1 := 91) (as := [.ref 1]) (r := []) (TBof tbs_52 _ rfl) rfl (lnkof mo_52 ln_3_208) rfl na_3 ltc_29 (sh_29.trans (by rw [mo_3])) (Nat.le_of_ble_eq_true rfl) H (fun x10 M10 h10 D10 H => ?_)
              exact ev_ireturn (TBof tbs_52 _ rfl) (retI_i rt_52) ⟨_, rfl, H⟩
            · refine ⟨43, 92, by rw [e9]; rfl, by decide, ?_⟩
              replace H := H.2.1 (Int32.toInt_inj.mp (by rw [e9]; decide))
              refine ev_aload_n (pc1 := 93) rfl rfl (TBof tbs_52 _ rfl) rfl ?_
              refine ev_getP (pc1 := 96) (ci := 3) (k := 4) (a := 29) (TBof tbs_52 _ rfl) rfl (fldof mo_52 fl_3_29) ltc_0 sh_0 nk_3_4 fp_3_4 (by decide) pf_0_4 ?_
              refine ev_getI (pc1 := 99) (ci := 1) (k := 0) (TBof tbs_52 _ rfl) rfl (fldof mo_52 fl_3_212) ltc_29 sh_29 nk_1_0 fi_1_0 ?_
              exact ev_ireturn (TBof tbs_52 _ rfl) (retI_i rt_52) ⟨_, rfl, H⟩
            · refine ⟨51, 100, by rw [e9]; rfl, by decide, ?_⟩
              replace H := H.2.2.1 (Int32.toInt_inj.mp (by rw [e9]; decide))
              refine ev_aload_n (pc1 := 101) rfl rfl (TBof tbs_52 _ rfl) rfl ?_
              refine ev_getP (pc1 := 104) (ci := 3) (k := 4) (a := 29) (TBof tbs_52 _ rfl) rfl (fldof mo_52 fl_3_29) ltc_0 sh_0 nk_3_4 fp_3_4 (by decide) pf_0_4 ?_
              refine ev_getI (pc1 := 107) (ci := 1) (k := 1) (TBof tbs_52 _ rfl) rfl (fldof mo_52 fl_3_215) ltc_29 sh_29 nk_1_1 fi_1_1 ?_
              exact ev_ireturn (TBof tbs_52 _ rfl) (retI_i rt_52) ⟨_, rfl, H⟩
            · refine ⟨59, 108, by rw [e9]; rfl, by decide, ?_⟩
              replace H := H.2.2.2 (Int32.toInt_inj.mp (by rw [e9]; decide))
              refine ev_aload_n (pc1 := 109) rfl rfl (TBof tbs_52 _ rfl) rfl ?_
              refine ev_getP (pc1 := 112) (ci := 3) (k := 4) (a := 29) (TBof tbs_52 _ rfl) rfl (fldof mo_52 fl_3_29) ltc_0 sh_0 nk_3_4 fp_3_4 (by decide) pf_0_4 ?_
              refine ev_aload_n (pc1 := 113) rfl rfl (TBof tbs_52 _ rfl) rfl ?_
              refine ev_getP (pc1 := 116) (ci := 3) (k := 0) (a := 1) (TBof tbs_52 _ rfl) rfl (fldof mo_52 fl_3_12) ltc_0 sh_0 nk_3_0 fp_3_0 (by decide) pf_0_0 ?_
              refine ev_callvI (pc1 := 119) (as := [.ref 1]) (r := []) (TBof tbs_52 _ rfl) rfl (lnkof mo_52 ln_3_218) rfl na_4 ltc_29 (sh_29.trans (by rw [mo_4])) (Nat.le_of_ble_eq_true rfl) H (fun x11 M11 h11 D11 H => ?_)
              exact ev_ireturn (TBof tbs_52 _ rfl) (retI_i rt_52) ⟨_, rfl, H⟩
        · replace H := H.2 c6
          refine ev_bipush (pc1 := 35) (x := (-4)) (by decide) (TBof tbs_52 _ rfl) rfl ?_
          exact ev_ireturn (TBof tbs_52 _ rfl) (retI_i rt_52) ⟨_, rfl, H⟩
      · replace H := H.2 c4
        refine ev_bipush (pc1 := 24) (x := (-2)) (by decide) (TBof tbs_52 _ rfl) rfl ?_
        exact ev_ireturn (TBof tbs_52 _ rfl) (retI_i rt_52) ⟨_, rfl, H⟩
  · replace H := H.2 c2
    refine ev_iconst (pc1 := 12) (x := (-1)) (by decide) (TBof tbs_52 _ rfl) rfl ?_
    exact ev_ireturn (TBof tbs_52 _ rfl) (retI_i rt_52) ⟨_, rfl, H⟩
set_option maxRecDepth 100000 in
theorem R_X3_hint_0 {d : Nat} {v1 : Int32} {M : Im} {h : Hm} {D : Dm} {Q : Int32 → Im → Hm → Dm → Prop} (H : CI d nX2_isThere [.ref 1, .int v1] M h D (fun x1 M1 h1 D1 => ((¬ (x1 = 0)) → ((((M1 1 1) = 0) → (Q (-4) M1 h1 D1)) ∧ (¬ ((M1 1 1) = 0) → (CI d nX3_canComeTo [.ref 0, .int v1] M1 h1 D1 (fun x4 M4 h4 D4 => ((¬ (x4 = 0)) → (CV d nX1_make [.ref 29, .ref 1, .int v1] M4 h4 D4 (fun M6 h6 D6 => CI d nX1_firstStep [.ref 29, .ref 1] M6 h6 D6 (fun x7 M7 h7 D7 => Q x7 M7 h7 D7)))) ∧ (¬ (¬ (x4 = 0)) → (Q (-4) M4 h4 D4))))))) ∧ (¬ (¬ (x1 = 0)) → (Q (-1) M1 h1 D1)))) : EvI d nX3_hint 0 [(0, .ref 0), (1, .int v1)] [] M h D Q := by
  refine ev_aload_n (pc1 := 1) rfl rfl (TBof tbs_53 _ rfl) rfl ?_
  refine ev_getP (pc1 := 4) (ci := 3) (k := 0) (a := 1) (TBof tbs_53 _ rfl) rfl (fldof mo_53 fl_3_12) ltc_0 sh_0 nk_3_0 fp_3_0 (by decide) pf_0_0 ?_
  refine ev_iload_n (pc1 := 5) rfl (TBof tbs_53 _ rfl) rfl ?_
  refine ev_callvI (pc1 := 8) (as := [.int v1]) (r := []) (TBof tbs_53 _ rfl) rfl (lnkof mo_53 ln_3_48) rfl na_18 ltc_1 (sh_1.trans (by rw [mo_18])) (Nat.le_of_ble_eq_true rfl) H (fun x1 M1 h1 D1 H => ?_)
  refine ev_if (pc1 := 11) (t := 13) (TBof tbs_53 _ rfl) (by decide) rfl (fun c2 => ?_) (fun c2 => ?_)
  · replace H := H.1 c2
    refine ev_aload_n (pc1 := 14) rfl rfl (TBof tbs_53 _ rfl) rfl ?_
    refine ev_getP (pc1 := 17) (ci := 3) (k := 0) (a := 1) (TBof tbs_53 _ rfl) rfl (fldof mo_53 fl_3_12) ltc_0 sh_0 nk_3_0 fp_3_0 (by decide) pf_0_0 ?_
    refine ev_getI (pc1 := 20) (ci := 2) (k := 1) (TBof tbs_53 _ rfl) rfl (fldof mo_53 fl_3_59) ltc_1 sh_1 nk_2_1 fi_2_1 ?_
    refine ev_if (pc1 := 23) (t := 31) (TBof tbs_53 _ rfl) (by decide) rfl (fun c3 => ?_) (fun c3 => ?_)
    · replace H := H.1 c3
      refine ev_bipush (pc1 := 33) (x := (-4)) (by decide) (TBof tbs_53 _ rfl) rfl ?_
      exact ev_ireturn (TBof tbs_53 _ rfl) (retI_i rt_53) ⟨_, rfl, H⟩
    · replace H := H.2 c3
      refine ev_aload_n (pc1 := 24) rfl rfl (TBof tbs_53 _ rfl) rfl ?_
      refine ev_iload_n (pc1 := 25) rfl (TBof tbs_53 _ rfl) rfl ?_
      refine ev_callvI (pc1 := 28) (as := [.int v1]) (r := []) (TBof tbs_53 _ rfl) rfl (lnkof mo_53 ln_3_201) rfl na_66 ltc_0 (sh_0.trans (by rw [mo_66])) (Nat.le_of_ble_eq_true rfl) H (fun x4 M4 h4 D4 H => ?_)
      refine ev_if (pc1 := 31) (t := 34) (TBof tbs_53 _ rfl) (by decide) rfl (fun c5 => ?_) (fun c5 => ?_)
      · replace H := H.1 c5
        refine ev_aload_n (pc1 := 35) rfl rfl (TBof tbs_53 _ rfl) rfl ?_
        refine ev_getP (pc1 := 38) (ci := 3) (k := 4) (a := 29) (TBof tbs_53 _ rfl) rfl (fldof mo_53 fl_3_29) ltc_0 sh_0 nk_3_4 fp_3_4 (by decide) pf_0_4 ?_
        refine ev_aload_n (pc1 := 39) rfl rfl (TBof tbs_53 _ rfl) rfl ?_
        refine ev_getP (pc1 := 42) (ci := 3) (k := 0) (a := 1) (TBof tbs_53 _ rfl) rfl (fldof mo_53 fl_3_12) ltc_0 sh_0 nk_3_0 fp_3_0 (by decide) pf_0_0 ?_
        refine ev_iload_n (pc1 := 43) rfl (TBof tbs_53 _ rfl) rfl ?_
        refine ev_callvV (pc1 := 46) (as := [.ref 1, .int v1]) (r := []) (TBof tbs_53 _ rfl) rfl (lnkof mo_53 ln_3_204) rfl na_2 ltc_29 (sh_29.trans (by rw [mo_2])) (Nat.le_of_ble_eq_true rfl) H (fun M6 h6 D6 H => ?_)
        refine ev_aload_n (pc1 := 47) rfl rfl (TBof tbs_53 _ rfl) rfl ?_
        refine ev_getP (pc1 := 50) (ci := 3) (k := 4) (a := 29) (TBof tbs_53 _ rfl) rfl (fldof mo_53 fl_3_29) ltc_0 sh_0 nk_3_4 fp_3_4 (by decide) pf_0_4 ?_
        refine ev_aload_n (pc1 := 51) rfl rfl (TBof tbs_53 _ rfl) rfl ?_
        refine ev_getP (pc1 := 54) (ci := 3) (k := 0) (a := 1) (TBof tbs_53 _ rfl) rfl (fldof mo_53 fl_3_12) ltc_0 sh_0 nk_3_0 fp_3_0 (by decide) pf_0_0 ?_
        refine ev_callvI (pc1 := 57) (as := [.ref 1]) (r := []) (TBof tbs_53 _ rfl) rfl (lnkof mo_53 ln_3_224) rfl na_5 ltc_29 (sh_29.trans (by rw [mo_5])) (Nat.le_of_ble_eq_true rfl) H (fun x7 M7 h7 D7 H => ?_)
        exact ev_ireturn (TBof tbs_53 _ rfl) (retI_i rt_53) ⟨_, rfl, H⟩
      · replace H := H.2 c5
        refine ev_bipush (pc1 := 33) (x := (-4)) (by decide) (TBof tbs_53 _ rfl) rfl ?_
        exact ev_ireturn (TBof tbs_53 _ rfl) (retI_i rt_53) ⟨_, rfl, H⟩
  · replace H := H.2 c2
    refine ev_iconst (pc1 := 12) (x := (-1)) (by decide) (TBof tbs_53 _ rfl) rfl ?_
    exact ev_ireturn (TBof tbs_53 _ rfl) (retI_i rt_53) ⟨_, rfl, H⟩
set_option maxRecDepth 100000 in
theorem R_X3_minutes_0 {d : Nat} {M : Im} {h : Hm} {D : Dm} {Q : UInt64 → Im → Hm → Dm → Prop} (H : (((M 1 1) = 0) → (Q 13830554455654793216 M h D)) ∧ (¬ ((M 1 1) = 0) → (vf_n64 (FP.ddiv (FP.i2d (M 1 3)) 4616189618054758400) ∧ (Q (FP.ddiv (FP.i2d (M 1 3)) 4616189618054758400) M h D)))) : EvD d nX3_minutes 0 [(0, .ref 0)] [] M h D Q := by
  refine ev_aload_n (pc1 := 1) rfl rfl (TBof tbs_54 _ rfl) rfl ?_
  refine ev_getP (pc1 := 4) (ci := 3) (k := 0) (a := 1) (TBof tbs_54 _ rfl) rfl (fldof mo_54 fl_3_12) ltc_0 sh_0 nk_3_0 fp_3_0 (by decide) pf_0_0 ?_
  refine ev_getI (pc1 := 7) (ci := 2) (k := 1) (TBof tbs_54 _ rfl) rfl (fldof mo_54 fl_3_59) ltc_1 sh_1 nk_2_1 fi_2_1 ?_
  refine ev_if (pc1 := 10) (t := 25) (TBof tbs_54 _ rfl) (by decide) rfl (fun c1 => ?_) (fun c1 => ?_)
  · replace H := H.1 c1
    refine ev_ldc2_w (pc1 := 28) (x := 13830554455654793216) rfl (TBof tbs_54 _ rfl) rfl ?_
    exact ev_dreturn (TBof tbs_54 _ rfl) rt_54 ⟨_, rfl, H⟩
  · replace H := H.2 c1
    refine ev_aload_n (pc1 := 11) rfl rfl (TBof tbs_54 _ rfl) rfl ?_
    refine ev_getP (pc1 := 14) (ci := 3) (k := 0) (a := 1) (TBof tbs_54 _ rfl) rfl (fldof mo_54 fl_3_12) ltc_0 sh_0 nk_3_0 fp_3_0 (by decide) pf_0_0 ?_
    refine ev_getI (pc1 := 17) (ci := 2) (k := 3) (TBof tbs_54 _ rfl) rfl (fldof mo_54 fl_3_227) ltc_1 sh_1 nk_2_3 fi_2_3 ?_
    refine ev_i2d (pc1 := 18) (TBof tbs_54 _ rfl) rfl ?_
    refine ev_ldc2_w (pc1 := 21) (x := 4616189618054758400) rfl (TBof tbs_54 _ rfl) rfl ?_
    refine ev_ddiv (pc1 := 22) H.1 (TBof tbs_54 _ rfl) rfl ?_
    replace H := H.2
    refine ev_goto (pc1 := 28) (TBof tbs_54 _ rfl) (by decide) ?_
    exact ev_dreturn (TBof tbs_54 _ rfl) rt_54 ⟨_, rfl, H⟩
set_option maxRecDepth 100000 in
theorem R_X3_minutesBits_0 {d : Nat} {M : Im} {h : Hm} {D : Dm} {Q : Int32 → Im → Hm → Dm → Prop} (H : (((M 1 1) = 0) → (Q 0 M h D)) ∧ (¬ ((M 1 1) = 0) → (CD d nX3_minutes [.ref 0] M h D (fun x2 M2 h2 D2 => vf_n32 (FP.d2f x2) ∧ (CI d nX3_bitsOf [.float (FP.d2f x2)] M2 h2 D2 (fun x3 M3 h3 D3 => Q x3 M3 h3 D3)))))) : EvI d nX3_minutesBits 0 [(0, .ref 0)] [] M h D Q := by
  refine ev_aload_n (pc1 := 1) rfl rfl (TBof tbs_55 _ rfl) rfl ?_
  refine ev_getP (pc1 := 4) (ci := 3) (k := 0) (a := 1) (TBof tbs_55 _ rfl) rfl (fldof mo_55 fl_3_12) ltc_0 sh_0 nk_3_0 fp_3_0 (by decide) pf_0_0 ?_
  refine ev_getI (pc1 := 7) (ci := 2) (k := 1) (TBof tbs_55 _ rfl) rfl (fldof mo_55 fl_3_59) ltc_1 sh_1 nk_2_1 fi_2_1 ?_
  refine ev_if (pc1 := 10) (t := 21) (TBof tbs_55 _ rfl) (by decide) rfl (fun c1 => ?_) (fun c1 => ?_)
  · replace H := H.1 c1
    refine ev_iconst (pc1 := 22) (x := 0) (by decide) (TBof tbs_55 _ rfl) rfl ?_
    exact ev_ireturn (TBof tbs_55 _ rfl) (retI_i rt_55) ⟨_, rfl, H⟩
  · replace H := H.2 c1
    refine ev_aload_n (pc1 := 11) rfl rfl (TBof tbs_55 _ rfl) rfl ?_
    refine ev_callvD (pc1 := 14) (as := []) (r := []) (TBof tbs_55 _ rfl) rfl (lnkof mo_55 ln_3_234) rfl na_54 ltc_0 (sh_0.trans (by rw [mo_54])) (Nat.le_of_ble_eq_true rfl) H (fun x2 M2 h2 D2 H => ?_)
    refine ev_d2f (pc1 := 15) H.1 (TBof tbs_55 _ rfl) rfl ?_
    replace H := H.2
    refine ev_callsI (pc1 := 18) (as := [.float (FP.d2f x2)]) (r := []) (TBof tbs_55 _ rfl) rfl (lnkof mo_55 ln_3_238) (Or.inl rfl) rfl na_62 (Nat.le_of_ble_eq_true rfl) H (fun x3 M3 h3 D3 H => ?_)
    refine ev_goto (pc1 := 22) (TBof tbs_55 _ rfl) (by decide) ?_
    exact ev_ireturn (TBof tbs_55 _ rfl) (retI_i rt_55) ⟨_, rfl, H⟩
set_option maxRecDepth 100000 in
theorem R_X3_count_0 {d : Nat} {v1 : Int32} {M : Im} {h : Hm} {D : Dm} {Q : Int32 → Im → Hm → Dm → Prop} (H : ((v1.toInt < 0 ∨ 10 < v1.toInt) → (Q (-2) M h D)) ∧ ((v1 = 0) → (Q (M 1 0) M h D)) ∧ ((v1 = 1) → (CI d nX3_oneIf [.int (M 1 1)] M h D (fun x2 M2 h2 D2 => Q x2 M2 h2 D2))) ∧ ((v1 = 2) → (CI d nJ6_bitCount_0f7a4 [.int (M 1 4)] M h D (fun x3 M3 h3 D3 => Q x3 M3 h3 D3))) ∧ ((v1 = 3) → (Q (M 1 6) M h D)) ∧ ((v1 = 4) → (CI d nJ6_bitCount_0f7a4 [.int (M 1 5)] M h D (fun x4 M4 h4 D4 => Q x4 M4 h4 D4))) ∧ ((v1 = 5) → (Q (M 1 2) M h D)) ∧ ((v1 = 6) → (CI d nX3_neverOpened [.ref 0] M h D (fun x5 M5 h5 D5 => ((¬ (x5 = 0)) → (CI d nX3_oneIf [.int 0] M5 h5 D5 (fun x7 M7 h7 D7 => Q x7 M7 h7 D7))) ∧ (¬ (¬ (x5 = 0)) → (CI d nX3_oneIf [.int 1] M5 h5 D5 (fun x8 M8 h8 D8 => Q x8 M8 h8 D8)))))) ∧ ((v1 = 7) → (CI d nX3_neverOpened [.ref 0] M h D (fun x9 M9 h9 D9 => Q x9 M9 h9 D9))) ∧ ((v1 = 8) → ((((M 1 1) = 0) → (Q 0 M h D)) ∧ (¬ ((M 1 1) = 0) → (CI d nX2_openableNow [.ref 1] M h D (fun x11 M11 h11 D11 => Q x11 M11 h11 D11))))) ∧ ((v1 = 9) → (Q (M 0 6) M h D)) ∧ ((v1 = 10) → (Q (M 31 1) M h D))) : EvI d nX3_count 0 [(0, .ref 0), (1, .int v1)] [] M h D Q := by
  refine ev_iload_n (pc1 := 1) rfl (TBof tbs_56 _ rfl) rfl ?_
  refine ev_table (TBof tbs_56 _ rfl) (fun c1 => ⟨173, by decide, ?_⟩) (fun c1 => ?_)
  · replace H := H.1 c1
    refine ev_bipush (pc1 := 175) (x := (-2)) (by decide) (TBof tbs_56 _ rfl) rfl ?_
    exact ev_ireturn (TBof tbs_56 _ rfl) (retI_i rt_56) ⟨_, rfl, H⟩
  · have e1 : v1.toInt = 0 ∨ v1.toInt = 1 ∨ v1.toInt = 2 ∨ v1.toInt = 3 ∨ v1.toInt = 4 ∨ v1.toInt = 5 ∨ v1.toInt = 6 ∨ v1.toInt = 7 ∨ v1.toInt = 8 ∨ v1.toInt = 9 ∨ v1.toInt = 10 := by omega
    replace H := H.2
    rcases e1 with e1 | e1 | e1 | e1 | e1 | e1 | e1 | e1 | e1 | e1 | e1
    · refine ⟨59, 60, by rw [e1]; rfl, by decide, ?_⟩
      replace H := H.1 (Int32.toInt_inj.mp (by rw [e1]; decide))
      refine ev_aload_n (pc1 := 61) rfl rfl (TBof tbs_56 _ rfl) rfl ?_
      refine ev_getP (pc1 := 64) (ci := 3) (k := 0) (a := 1) (TBof tbs_56 _ rfl) rfl (fldof mo_56 fl_3_12) ltc_0 sh_0 nk_3_0 fp_3_0 (by decide) pf_0_0 ?_
      refine ev_getI (pc1 := 67) (ci := 2) (k := 0) (TBof tbs_56 _ rfl) rfl (fldof mo_56 fl_3_56) ltc_1 sh_1 nk_2_0 fi_2_0 ?_
      exact ev_ireturn (TBof tbs_56 _ rfl) (retI_i rt_56) ⟨_, rfl, H⟩
    · refine ⟨67, 68, by rw [e1]; rfl, by decide, ?_⟩
      replace H := H.2.1 (Int32.toInt_inj.mp (by rw [e1]; decide))
      refine ev_aload_n (pc1 := 69) rfl rfl (TBof tbs_56 _ rfl) rfl ?_
      refine ev_getP (pc1 := 72) (ci := 3) (k := 0) (a := 1) (TBof tbs_56 _ rfl) rfl (fldof mo_56 fl_3_12) ltc_0 sh_0 nk_3_0 fp_3_0 (by decide) pf_0_0 ?_
      refine ev_getI (pc1 := 75) (ci := 2) (k := 1) (TBof tbs_56 _ rfl) rfl (fldof mo_56 fl_3_59) ltc_1 sh_1 nk_2_1 fi_2_1 ?_
      refine ev_callsI (pc1 := 78) (as := [.int (M 1 1)]) (r := []) (TBof tbs_56 _ rfl) rfl (lnkof mo_56 ln_3_191) (Or.inl rfl) rfl na_59 (Nat.le_of_ble_eq_true rfl) H (fun x2 M2 h2 D2 H => ?_)
      exact ev_ireturn (TBof tbs_56 _ rfl) (retI_i rt_56) ⟨_, rfl, H⟩
    · refine ⟨78, 79, by rw [e1]; rfl, by decide, ?_⟩
      replace H := H.2.2.1 (Int32.toInt_inj.mp (by rw [e1]; decide))
      refine ev_aload_n (pc1 := 80) rfl rfl (TBof tbs_56 _ rfl) rfl ?_
      refine ev_getP (pc1 := 83) (ci := 3) (k := 0) (a := 1) (TBof tbs_56 _ rfl) rfl (fldof mo_56 fl_3_12) ltc_0 sh_0 nk_3_0 fp_3_0 (by decide) pf_0_0 ?_
      refine ev_getI (pc1 := 86) (ci := 2) (k := 4) (TBof tbs_56 _ rfl) rfl (fldof mo_56 fl_3_135) ltc_1 sh_1 nk_2_4 fi_2_4 ?_
      refine ev_callsI (pc1 := 89) (as := [.int (M 1 4)]) (r := []) (TBof tbs_56 _ rfl) rfl (lnkof mo_56 ln_3_138) (Or.inl rfl) rfl na_68 (Nat.le_of_ble_eq_true rfl) H (fun x3 M3 h3 D3 H => ?_)
      exact ev_ireturn (TBof tbs_56 _ rfl) (retI_i rt_56) ⟨_, rfl, H⟩
    · refine ⟨89, 90, by rw [e1]; rfl, by decide, ?_⟩
      replace H := H.2.2.2.1 (Int32.toInt_inj.mp (by rw [e1]; decide))
      refine ev_aload_n (pc1 := 91) rfl rfl (TBof tbs_56 _ rfl) rfl ?_
      refine ev_getP (pc1 := 94) (ci := 3) (k := 0) (a := 1) (TBof tbs_56 _ rfl) rfl (fldof mo_56 fl_3_12) ltc_0 sh_0 nk_3_0 fp_3_0 (by decide) pf_0_0 ?_
      refine ev_getI (pc1 := 97) (ci := 2) (k := 6) (TBof tbs_56 _ rfl) rfl (fldof mo_56 fl_3_165) ltc_1 sh_1 nk_2_6 fi_2_6 ?_
      exact ev_ireturn (TBof tbs_56 _ rfl) (retI_i rt_56) ⟨_, rfl, H⟩
    · refine ⟨97, 98, by rw [e1]; rfl, by decide, ?_⟩
      replace H := H.2.2.2.2.1 (Int32.toInt_inj.mp (by rw [e1]; decide))
      refine ev_aload_n (pc1 := 99) rfl rfl (TBof tbs_56 _ rfl) rfl ?_
      refine ev_getP (pc1 := 102) (ci := 3) (k := 0) (a := 1) (TBof tbs_56 _ rfl) rfl (fldof mo_56 fl_3_12) ltc_0 sh_0 nk_3_0 fp_3_0 (by decide) pf_0_0 ?_
      refine ev_getI (pc1 := 105) (ci := 2) (k := 5) (TBof tbs_56 _ rfl) rfl (fldof mo_56 fl_3_168) ltc_1 sh_1 nk_2_5 fi_2_5 ?_
      refine ev_callsI (pc1 := 108) (as := [.int (M 1 5)]) (r := []) (TBof tbs_56 _ rfl) rfl (lnkof mo_56 ln_3_138) (Or.inl rfl) rfl na_68 (Nat.le_of_ble_eq_true rfl) H (fun x4 M4 h4 D4 H => ?_)
      exact ev_ireturn (TBof tbs_56 _ rfl) (retI_i rt_56) ⟨_, rfl, H⟩
    · refine ⟨108, 109, by rw [e1]; rfl, by decide, ?_⟩
      replace H := H.2.2.2.2.2.1 (Int32.toInt_inj.mp (by rw [e1]; decide))
      refine ev_aload_n (pc1 := 110) rfl rfl (TBof tbs_56 _ rfl) rfl ?_
      refine ev_getP (pc1 := 113) (ci := 3) (k := 0) (a := 1) (TBof tbs_56 _ rfl) rfl (fldof mo_56 fl_3_12) ltc_0 sh_0 nk_3_0 fp_3_0 (by decide) pf_0_0 ?_
      refine ev_getI (pc1 := 116) (ci := 2) (k := 2) (TBof tbs_56 _ rfl) rfl (fldof mo_56 fl_3_116) ltc_1 sh_1 nk_2_2 fi_2_2 ?_
      exact ev_ireturn (TBof tbs_56 _ rfl) (retI_i rt_56) ⟨_, rfl, H⟩
    · refine ⟨116, 117, by rw [e1]; rfl, by decide, ?_⟩
      replace H := H.2.2.2.2.2.2.1 (Int32.toInt_inj.mp (by rw [e1]; decide))
      refine ev_aload_n (pc1 := 118) rfl rfl (TBof tbs_56 _ rfl) rfl ?_
      refine ev_callvI (pc1 := 121) (as := []) (r := []) (TBof tbs_56 _ rfl) rfl (lnkof mo_56 ln_3_242) rfl na_67 ltc_0 (sh_0.trans (by rw [mo_67])) (Nat.le_of_ble_eq_true rfl) H (fun x5 M5 h5 D5 H => ?_)
      refine ev_if (pc1 := 124) (t := 128) (TBof tbs_56 _ rfl) (by decide) rfl (fun c6 => ?_) (fun c6 => ?_)
      · replace H := H.1 c6
        refine ev_iconst (pc1 := 129) (x := 0) (by decide) (TBof tbs_56 _ rfl) rfl ?_
        refine ev_callsI (pc1 := 132) (as := [.int 0]) (r := []) (TBof tbs_56 _ rfl) rfl (lnkof mo_56 ln_3_191) (Or.inl rfl) rfl na_59 (Nat.le_of_ble_eq_true rfl) H (fun x7 M7 h7 D7 H => ?_)
        exact ev_ireturn (TBof tbs_56 _ rfl) (retI_i rt_56) ⟨_, rfl, H⟩
      · replace H := H.2 c6
        refine ev_iconst (pc1 := 125) (x := 1) (by decide) (TBof tbs_56 _ rfl) rfl ?_
        refine ev_goto (pc1 := 129) (TBof tbs_56 _ rfl) (by decide) ?_
        refine ev_callsI (pc1 := 132) (as := [.int 1]) (r := []) (TBof tbs_56 _ rfl) rfl (lnkof mo_56 ln_3_191) (Or.inl rfl) rfl na_59 (Nat.le_of_ble_eq_true rfl) H (fun x8 M8 h8 D8 H => ?_)
        exact ev_ireturn (TBof tbs_56 _ rfl) (retI_i rt_56) ⟨_, rfl, H⟩
    · refine ⟨132, 133, by rw [e1]; rfl, by decide, ?_⟩
      replace H := H.2.2.2.2.2.2.2.1 (Int32.toInt_inj.mp (by rw [e1]; decide))
      refine ev_aload_n (pc1 := 134) rfl rfl (TBof tbs_56 _ rfl) rfl ?_
      refine ev_callvI (pc1 := 137) (as := []) (r := []) (TBof tbs_56 _ rfl) rfl (lnkof mo_56 ln_3_242) rfl na_67 ltc_0 (sh_0.trans (by rw [mo_67])) (Nat.le_of_ble_eq_true rfl) H (fun x9 M9 h9 D9 H => ?_)
      exact ev_ireturn (TBof tbs_56 _ rfl) (retI_i rt_56) ⟨_, rfl, H⟩
    · refine ⟨137, 138, by rw [e1]; rfl, by decide, ?_⟩
      replace H := H.2.2.2.2.2.2.2.2.1 (Int32.toInt_inj.mp (by rw [e1]; decide))
      refine ev_aload_n (pc1 := 139) rfl rfl (TBof tbs_56 _ rfl) rfl ?_
      refine ev_getP (pc1 := 142) (ci := 3) (k := 0) (a := 1) (TBof tbs_56 _ rfl) rfl (fldof mo_56 fl_3_12) ltc_0 sh_0 nk_3_0 fp_3_0 (by decide) pf_0_0 ?_
      refine ev_getI (pc1 := 145) (ci := 2) (k := 1) (TBof tbs_56 _ rfl) rfl (fldof mo_56 fl_3_59) ltc_1 sh_1 nk_2_1 fi_2_1 ?_
      refine ev_if (pc1 := 148) (t := 158) (TBof tbs_56 _ rfl) (by decide) rfl (fun c10 => ?_) (fun c10 => ?_)
      · replace H := H.1 c10
        refine ev_iconst (pc1 := 159) (x := 0) (by decide) (TBof tbs_56 _ rfl) rfl ?_
        exact ev_ireturn (TBof tbs_56 _ rfl) (retI_i rt_56) ⟨_, rfl, H⟩
      · replace H := H.2 c10
        refine ev_aload_n (pc1 := 149) rfl rfl (TBof tbs_56 _ rfl) rfl ?_
        refine ev_getP (pc1 := 152) (ci := 3) (k := 0) (a := 1) (TBof tbs_56 _ rfl) rfl (fldof mo_56 fl_3_12) ltc_0 sh_0 nk_3_0 fp_3_0 (by decide) pf_0_0 ?_
        refine ev_callvI (pc1 := 155) (as := []) (r := []) (TBof tbs_56 _ rfl) rfl (lnkof mo_56 ln_3_245) rfl na_33 ltc_1 (sh_1.trans (by rw [mo_33])) (Nat.le_of_ble_eq_true rfl) H (fun x11 M11 h11 D11 H => ?_)
        refine ev_goto (pc1 := 159) (TBof tbs_56 _ rfl) (by decide) ?_
        exact ev_ireturn (TBof tbs_56 _ rfl) (retI_i rt_56) ⟨_, rfl, H⟩
    · refine ⟨159, 160, by rw [e1]; rfl, by decide, ?_⟩
      replace H := H.2.2.2.2.2.2.2.2.2.1 (Int32.toInt_inj.mp (by rw [e1]; decide))
      refine ev_aload_n (pc1 := 161) rfl rfl (TBof tbs_56 _ rfl) rfl ?_
      refine ev_getI (pc1 := 164) (ci := 3) (k := 6) (TBof tbs_56 _ rfl) rfl (fldof mo_56 fl_3_40) ltc_0 sh_0 nk_3_6 fi_3_6 ?_
      exact ev_ireturn (TBof tbs_56 _ rfl) (retI_i rt_56) ⟨_, rfl, H⟩
    · refine ⟨164, 165, by rw [e1]; rfl, by decide, ?_⟩
      replace H := H.2.2.2.2.2.2.2.2.2.2 (Int32.toInt_inj.mp (by rw [e1]; decide))
      refine ev_aload_n (pc1 := 166) rfl rfl (TBof tbs_56 _ rfl) rfl ?_
      refine ev_getP (pc1 := 169) (ci := 3) (k := 5) (a := 31) (TBof tbs_56 _ rfl) rfl (fldof mo_56 fl_3_36) ltc_0 sh_0 nk_3_5 fp_3_5 (by decide) pf_0_5 ?_
      refine ev_getI (pc1 := 172) (ci := 0) (k := 1) (TBof tbs_56 _ rfl) rfl (fldof mo_56 fl_3_181) ltc_31 sh_31 nk_0_1 fi_0_1 ?_
      exact ev_ireturn (TBof tbs_56 _ rfl) (retI_i rt_56) ⟨_, rfl, H⟩
set_option maxRecDepth 100000 in
theorem R_X3_isHold_0 {d : Nat} {v0 v1 : Int32} {M : Im} {h : Hm} {D : Dm} {Q : Int32 → Im → Hm → Dm → Prop} (H : ((v0.toInt < 0 ∨ 3 < v0.toInt) → (Q 0 M h D)) ∧ ((v0 = 0) → (Q 1 M h D)) ∧ ((v0 = 1) → (((v1 < 0) → (Q 0 M h D)) ∧ (¬ (v1 < 0) → (((10 ≤ v1) → (Q 0 M h D)) ∧ (¬ (10 ≤ v1) → (Q 1 M h D)))))) ∧ ((v0 = 2) → (((v1 < 0) → (Q 0 M h D)) ∧ (¬ (v1 < 0) → (((16 ≤ v1) → (Q 0 M h D)) ∧ (¬ (16 ≤ v1) → (Q 1 M h D)))))) ∧ ((v0 = 3) → (Q 1 M h D))) : EvI d nX3_isHold 0 [(0, .int v0), (1, .int v1)] [] M h D Q := by
  refine ev_iload_n (pc1 := 1) rfl (TBof tbs_57 _ rfl) rfl ?_
  refine ev_table (TBof tbs_57 _ rfl) (fun c1 => ⟨66, by decide, ?_⟩) (fun c1 => ?_)
  · replace H := H.1 c1
    refine ev_iconst (pc1 := 67) (x := 0) (by decide) (TBof tbs_57 _ rfl) rfl ?_
    exact ev_ireturn (TBof tbs_57 _ rfl) (retI_z rt_57 (Or.inl rfl)) ⟨_, rfl, H⟩
  · have e1 : v0.toInt = 0 ∨ v0.toInt = 1 ∨ v0.toInt = 2 ∨ v0.toInt = 3 := by omega
    replace H := H.2
    rcases e1 with e1 | e1 | e1 | e1
    · refine ⟨31, 32, by rw [e1]; rfl, by decide, ?_⟩
      replace H := H.1 (Int32.toInt_inj.mp (by rw [e1]; decide))
      refine ev_iconst (pc1 := 33) (x := 1) (by decide) (TBof tbs_57 _ rfl) rfl ?_
      exact ev_ireturn (TBof tbs_57 _ rfl) (retI_z rt_57 (Or.inr rfl)) ⟨_, rfl, H⟩
    · refine ⟨33, 34, by rw [e1]; rfl, by decide, ?_⟩
      replace H := H.2.1 (Int32.toInt_inj.mp (by rw [e1]; decide))
      refine ev_iload_n (pc1 := 35) rfl (TBof tbs_57 _ rfl) rfl ?_
      refine ev_if (pc1 := 38) (t := 48) (TBof tbs_57 _ rfl) (by decide) rfl (fun c2 => ?_) (fun c2 => ?_)
      · replace H := H.1 c2
        refine ev_iconst (pc1 := 49) (x := 0) (by decide) (TBof tbs_57 _ rfl) rfl ?_
        exact ev_ireturn (TBof tbs_57 _ rfl) (retI_z rt_57 (Or.inl rfl)) ⟨_, rfl, H⟩
      · replace H := H.2 c2
        refine ev_iload_n (pc1 := 39) rfl (TBof tbs_57 _ rfl) rfl ?_
        refine ev_bipush (pc1 := 41) (x := 10) (by decide) (TBof tbs_57 _ rfl) rfl ?_
        refine ev_icmp (pc1 := 44) (t := 48) (TBof tbs_57 _ rfl) (by decide) rfl (fun c3 => ?_) (fun c3 => ?_)
        · replace H := H.1 c3
          refine ev_iconst (pc1 := 49) (x := 0) (by decide) (TBof tbs_57 _ rfl) rfl ?_
          exact ev_ireturn (TBof tbs_57 _ rfl) (retI_z rt_57 (Or.inl rfl)) ⟨_, rfl, H⟩
        · replace H := H.2 c3
          refine ev_iconst (pc1 := 45) (x := 1) (by decide) (TBof tbs_57 _ rfl) rfl ?_
          refine ev_goto (pc1 := 49) (TBof tbs_57 _ rfl) (by decide) ?_
          exact ev_ireturn (TBof tbs_57 _ rfl) (retI_z rt_57 (Or.inr rfl)) ⟨_, rfl, H⟩
    · refine ⟨49, 50, by rw [e1]; rfl, by decide, ?_⟩
      replace H := H.2.2.1 (Int32.toInt_inj.mp (by rw [e1]; decide))
      refine ev_iload_n (pc1 := 51) rfl (TBof tbs_57 _ rfl) rfl ?_
      refine ev_if (pc1 := 54) (t := 64) (TBof tbs_57 _ rfl) (by decide) rfl (fun c4 => ?_) (fun c4 => ?_)
      · replace H := H.1 c4
        refine ev_iconst (pc1 := 65) (x := 0) (by decide) (TBof tbs_57 _ rfl) rfl ?_
        exact ev_ireturn (TBof tbs_57 _ rfl) (retI_z rt_57 (Or.inl rfl)) ⟨_, rfl, H⟩
      · replace H := H.2 c4
        refine ev_iload_n (pc1 := 55) rfl (TBof tbs_57 _ rfl) rfl ?_
        refine ev_bipush (pc1 := 57) (x := 16) (by decide) (TBof tbs_57 _ rfl) rfl ?_
        refine ev_icmp (pc1 := 60) (t := 64) (TBof tbs_57 _ rfl) (by decide) rfl (fun c5 => ?_) (fun c5 => ?_)
        · replace H := H.1 c5
          refine ev_iconst (pc1 := 65) (x := 0) (by decide) (TBof tbs_57 _ rfl) rfl ?_
          exact ev_ireturn (TBof tbs_57 _ rfl) (retI_z rt_57 (Or.inl rfl)) ⟨_, rfl, H⟩
        · replace H := H.2 c5
          refine ev_iconst (pc1 := 61) (x := 1) (by decide) (TBof tbs_57 _ rfl) rfl ?_
          refine ev_goto (pc1 := 65) (TBof tbs_57 _ rfl) (by decide) ?_
          exact ev_ireturn (TBof tbs_57 _ rfl) (retI_z rt_57 (Or.inr rfl)) ⟨_, rfl, H⟩
    · refine ⟨31, 32, by rw [e1]; rfl, by decide, ?_⟩
      replace H := H.2.2.2 (Int32.toInt_inj.mp (by rw [e1]; decide))
      refine ev_iconst (pc1 := 33) (x := 1) (by decide) (TBof tbs_57 _ rfl) rfl ?_
      exact ev_ireturn (TBof tbs_57 _ rfl) (retI_z rt_57 (Or.inr rfl)) ⟨_, rfl, H⟩
set_option maxRecDepth 100000 in
theorem R_X3_isThing_0 {d : Nat} {v0 : Int32} {M : Im} {h : Hm} {D : Dm} {Q : Int32 → Im → Hm → Dm → Prop} (H : ((v0 < 0) → (Q 0 M h D)) ∧ (¬ (v0 < 0) → (((12 ≤ v0) → (Q 0 M h D)) ∧ (¬ (12 ≤ v0) → (Q 1 M h D))))) : EvI d nX3_isThing 0 [(0, .int v0)] [] M h D Q := by
  refine ev_iload_n (pc1 := 1) rfl (TBof tbs_58 _ rfl) rfl ?_
  refine ev_if (pc1 := 4) (t := 14) (TBof tbs_58 _ rfl) (by decide) rfl (fun c1 => ?_) (fun c1 => ?_)
  · replace H := H.1 c1
    refine ev_iconst (pc1 := 15) (x := 0) (by decide) (TBof tbs_58 _ rfl) rfl ?_
    exact ev_ireturn (TBof tbs_58 _ rfl) (retI_z rt_58 (Or.inl rfl)) ⟨_, rfl, H⟩
  · replace H := H.2 c1
    refine ev_iload_n (pc1 := 5) rfl (TBof tbs_58 _ rfl) rfl ?_
    refine ev_bipush (pc1 := 7) (x := 12) (by decide) (TBof tbs_58 _ rfl) rfl ?_
    refine ev_icmp (pc1 := 10) (t := 14) (TBof tbs_58 _ rfl) (by decide) rfl (fun c2 => ?_) (fun c2 => ?_)
    · replace H := H.1 c2
      refine ev_iconst (pc1 := 15) (x := 0) (by decide) (TBof tbs_58 _ rfl) rfl ?_
      exact ev_ireturn (TBof tbs_58 _ rfl) (retI_z rt_58 (Or.inl rfl)) ⟨_, rfl, H⟩
    · replace H := H.2 c2
      refine ev_iconst (pc1 := 11) (x := 1) (by decide) (TBof tbs_58 _ rfl) rfl ?_
      refine ev_goto (pc1 := 15) (TBof tbs_58 _ rfl) (by decide) ?_
      exact ev_ireturn (TBof tbs_58 _ rfl) (retI_z rt_58 (Or.inr rfl)) ⟨_, rfl, H⟩
set_option maxRecDepth 100000 in
theorem R_X3_oneIf_0 {d : Nat} {v0 : Int32} {M : Im} {h : Hm} {D : Dm} {Q : Int32 → Im → Hm → Dm → Prop} (H : ((v0 = 0) → (Q 0 M h D)) ∧ (¬ (v0 = 0) → (Q 1 M h D))) : EvI d nX3_oneIf 0 [(0, .int v0)] [] M h D Q := by
  refine ev_iload_n (pc1 := 1) rfl (TBof tbs_59 _ rfl) rfl ?_
  refine ev_if (pc1 := 4) (t := 8) (TBof tbs_59 _ rfl) (by decide) rfl (fun c1 => ?_) (fun c1 => ?_)
  · replace H := H.1 c1
    refine ev_iconst (pc1 := 9) (x := 0) (by decide) (TBof tbs_59 _ rfl) rfl ?_
    exact ev_ireturn (TBof tbs_59 _ rfl) (retI_i rt_59) ⟨_, rfl, H⟩
  · replace H := H.2 c1
    refine ev_iconst (pc1 := 5) (x := 1) (by decide) (TBof tbs_59 _ rfl) rfl ?_
    refine ev_goto (pc1 := 9) (TBof tbs_59 _ rfl) (by decide) ?_
    exact ev_ireturn (TBof tbs_59 _ rfl) (retI_i rt_59) ⟨_, rfl, H⟩
set_option maxRecDepth 100000 in
theorem R_X3_bit_0 {d : Nat} {v0 : Int32} {M : Im} {h : Hm} {D : Dm} {Q : Int32 → Im → Hm → Dm → Prop} (H : Q (1 <<< (v0 &&& 31)) M h D) : EvI d nX3_bit 0 [(0, .int v0)] [] M h D Q := by
  refine ev_iconst (pc1 := 1) (x := 1) (by decide) (TBof tbs_60 _ rfl) rfl ?_
  refine ev_iload_n (pc1 := 2) rfl (TBof tbs_60 _ rfl) rfl ?_
  refine ev_ishl (pc1 := 3) (TBof tbs_60 _ rfl) rfl ?_
  exact ev_ireturn (TBof tbs_60 _ rfl) (retI_i rt_60) ⟨_, rfl, H⟩
set_option maxRecDepth 100000 in
theorem R_X3_isIn_0 {d : Nat} {v0 v1 : Int32} {M : Im} {h : Hm} {D : Dm} {Q : Int32 → Im → Hm → Dm → Prop} (H : (((v0 &&& (1 <<< (v1 &&& 31))) = 0) → (Q 0 M h D)) ∧ (¬ ((v0 &&& (1 <<< (v1 &&& 31))) = 0) → (Q 1 M h D))) : EvI d nX3_isIn 0 [(0, .int v0), (1, .int v1)] [] M h D Q := by
  refine ev_iload_n (pc1 := 1) rfl (TBof tbs_61 _ rfl) rfl ?_
  refine ev_iconst (pc1 := 2) (x := 1) (by decide) (TBof tbs_61 _ rfl) rfl ?_
  refine ev_iload_n (pc1 := 3) rfl (TBof tbs_61 _ rfl) rfl ?_
  refine ev_ishl (pc1 := 4) (TBof tbs_61 _ rfl) rfl ?_
  refine ev_iand (pc1 := 5) (TBof tbs_61 _ rfl) rfl ?_
  refine ev_if (pc1 := 8) (t := 12) (TBof tbs_61 _ rfl) (by decide) rfl (fun c1 => ?_) (fun c1 => ?_)
  · replace H := H.1 c1
    refine ev_iconst (pc1 := 13) (x := 0) (by decide) (TBof tbs_61 _ rfl) rfl ?_
    exact ev_ireturn (TBof tbs_61 _ rfl) (retI_z rt_61 (Or.inl rfl)) ⟨_, rfl, H⟩
  · replace H := H.2 c1
    refine ev_iconst (pc1 := 9) (x := 1) (by decide) (TBof tbs_61 _ rfl) rfl ?_
    refine ev_goto (pc1 := 13) (TBof tbs_61 _ rfl) (by decide) ?_
    exact ev_ireturn (TBof tbs_61 _ rfl) (retI_z rt_61 (Or.inr rfl)) ⟨_, rfl, H⟩
set_option maxRecDepth 100000 in
theorem R_X3_bitsOf_0 {d : Nat} {v0 : UInt32} {M : Im} {h : Hm} {D : Dm} {Q : Int32 → Im → Hm → Dm → Prop} (H : ((0 < (Op.cmpValue (FP.fcmp v0 FP.fconst0) CmpOp.g)) → (EvI d nX3_bitsOf 15 [(0, .float v0), (1, .int 127), (2, .float v0), (3, .int 0)] [] M h D Q)) ∧ (¬ (0 < (Op.cmpValue (FP.fcmp v0 FP.fconst0) CmpOp.g)) → (Q 0 M h D))) : EvI d nX3_bitsOf 0 [(0, .float v0)] [] M h D Q := by
  refine ev_fload_n (pc1 := 1) rfl (TBof tbs_62 _ rfl) rfl ?_
  refine ev_fconst0 (pc1 := 2) (TBof tbs_62 _ rfl) rfl ?_
  refine ev_fcmp (pc1 := 3) (TBof tbs_62 _ rfl) rfl ?_
  refine ev_if (pc1 := 6) (t := 8) (TBof tbs_62 _ rfl) (by decide) rfl (fun c1 => ?_) (fun c1 => ?_)
  · replace H := H.1 c1
    refine ev_bipush (pc1 := 10) (x := 127) (by decide) (TBof tbs_62 _ rfl) rfl ?_
    refine ev_istore_n (pc1 := 11) (L1 := [(1, .int 127), (0, .float v0)]) (by rw [ml_62]; decide) rfl (TBof tbs_62 _ rfl) rfl ?_
    refine ev_fload_n (pc1 := 12) rfl (TBof tbs_62 _ rfl) rfl ?_
    refine ev_fstore_n (pc1 := 13) (L1 := [(2, .float v0), (1, .int 127), (0, .float v0)]) (by rw [ml_62]; decide) rfl (TBof tbs_62 _ rfl) rfl ?_
    refine ev_iconst (pc1 := 14) (x := 0) (by decide) (TBof tbs_62 _ rfl) rfl ?_
    refine ev_istore_n (pc1 := 15) (L1 := [(3, .int 0), (2, .float v0), (1, .int 127), (0, .float v0)]) (by rw [ml_62]; decide) rfl (TBof tbs_62 _ rfl) rfl ?_
    exact ev_le [3, 2, 1, 0] rfl rfl H
  · replace H := H.2 c1
    refine ev_iconst (pc1 := 7) (x := 0) (by decide) (TBof tbs_62 _ rfl) rfl ?_
    exact ev_ireturn (TBof tbs_62 _ rfl) (retI_i rt_62) ⟨_, rfl, H⟩
set_option maxRecDepth 100000 in
theorem R_X3_bitsOf_15 {d : Nat} {v0 v2 : UInt32} {v1 v3 : Int32} {M : Im} {h : Hm} {D : Dm} {Q : Int32 → Im → Hm → Dm → Prop} (H : ((128 ≤ v3) → (EvI d nX3_bitsOf 43 [(0, .float v0), (1, .int v1), (2, .float v2), (3, .int 0)] [] M h D Q)) ∧ (¬ (128 ≤ v3) → ((((Op.cmpValue (FP.fcmp v2 FP.fconst2) CmpOp.l) < 0) → (EvI d nX3_bitsOf 43 [(0, .float v0), (1, .int v1), (2, .float v2), (3, .int 0)] [] M h D Q)) ∧ (¬ ((Op.cmpValue (FP.fcmp v2 FP.fconst2) CmpOp.l) < 0) → (vf_n32 (FP.fdiv v2 FP.fconst2) ∧ (EvI d nX3_bitsOf 15 [(0, .float v0), (1, .int (v1 + 1)), (2, .float (FP.fdiv v2 FP.fconst2)), (3, .int (v3 + 1))] [] M h D Q)))))) : EvI d nX3_bitsOf 15 [(0, .float v0), (1, .int v1), (2, .float v2), (3, .int v3)] [] M h D Q := by
  refine ev_iload_n (pc1 := 16) rfl (TBof tbs_62 _ rfl) rfl ?_
  refine ev_sipush (pc1 := 19) (x := 128) (by decide) (TBof tbs_62 _ rfl) rfl ?_
  refine ev_icmp (pc1 := 22) (t := 41) (TBof tbs_62 _ rfl) (by decide) rfl (fun c1 => ?_) (fun c1 => ?_)
  · replace H := H.1 c1
    refine ev_iconst (pc1 := 42) (x := 0) (by decide) (TBof tbs_62 _ rfl) rfl ?_
    refine ev_istore_n (pc1 := 43) (L1 := [(3, .int 0), (0, .float v0), (1, .int v1), (2, .float v2)]) (by rw [ml_62]; decide) rfl (TBof tbs_62 _ rfl) rfl ?_
    exact ev_le [1, 2, 3, 0] rfl rfl H
  · replace H := H.2 c1
    refine ev_fload_n (pc1 := 23) rfl (TBof tbs_62 _ rfl) rfl ?_
    refine ev_fconst2 (pc1 := 24) (TBof tbs_62 _ rfl) rfl ?_
    refine ev_fcmp (pc1 := 25) (TBof tbs_62 _ rfl) rfl ?_
    refine ev_if (pc1 := 28) (t := 41) (TBof tbs_62 _ rfl) (by decide) rfl (fun c2 => ?_) (fun c2 => ?_)
    · replace H := H.1 c2
      refine ev_iconst (pc1 := 42) (x := 0) (by decide) (TBof tbs_62 _ rfl) rfl ?_
      refine ev_istore_n (pc1 := 43) (L1 := [(3, .int 0), (0, .float v0), (1, .int v1), (2, .float v2)]) (by rw [ml_62]; decide) rfl (TBof tbs_62 _ rfl) rfl ?_
      exact ev_le [1, 2, 3, 0] rfl rfl H
    · replace H := H.2 c2
      refine ev_fload_n (pc1 := 29) rfl (TBof tbs_62 _ rfl) rfl ?_
      refine ev_fconst2 (pc1 := 30) (TBof tbs_62 _ rfl) rfl ?_
      refine ev_fdiv (pc1 := 31) H.1 (TBof tbs_62 _ rfl) rfl ?_
      replace H := H.2
      refine ev_fstore_n (pc1 := 32) (L1 := [(2, .float (FP.fdiv v2 FP.fconst2)), (0, .float v0), (1, .int v1), (3, .int v3)]) (by rw [ml_62]; decide) rfl (TBof tbs_62 _ rfl) rfl ?_
      refine ev_iinc (pc1 := 35) (n := 1) (c := 1) (x := v1) (cc := 1) (L1 := [(1, .int (v1 + 1)), (2, .float (FP.fdiv v2 FP.fconst2)), (0, .float v0), (3, .int v3)]) rfl (by rw [ml_62]; decide) (by decide) rfl (TBof tbs_62 _ rfl) rfl ?_
      refine ev_iinc (pc1 := 38) (n := 3) (c := 1) (x := v3) (cc := 1) (L1 := [(3, .int (v3 + 1)), (1, .int (v1 + 1)), (2, .float (FP.fdiv v2 FP.fconst2)), (0, .float v0)]) rfl (by rw [ml_62]; decide) (by decide) rfl (TBof tbs_62 _ rfl) rfl ?_
      refine ev_goto (pc1 := 15) (TBof tbs_62 _ rfl) (by decide) ?_
      exact ev_le [3, 1, 2, 0] rfl rfl H
set_option maxRecDepth 100000 in
theorem R_X3_bitsOf_43 {d : Nat} {v0 v2 : UInt32} {v1 v3 : Int32} {M : Im} {h : Hm} {D : Dm} {Q : Int32 → Im → Hm → Dm → Prop} (H : ((128 ≤ v3) → (EvI d nX3_bitsOf 69 [(0, .float v0), (1, .int v1), (2, .float v2), (3, .int v3)] [] M h D Q)) ∧ (¬ (128 ≤ v3) → (((0 ≤ (Op.cmpValue (FP.fcmp v2 FP.fconst1) CmpOp.g)) → (EvI d nX3_bitsOf 69 [(0, .float v0), (1, .int v1), (2, .float v2), (3, .int v3)] [] M h D Q)) ∧ (¬ (0 ≤ (Op.cmpValue (FP.fcmp v2 FP.fconst1) CmpOp.g)) → (vf_n32 (FP.fmul v2 FP.fconst2) ∧ (EvI d nX3_bitsOf 43 [(0, .float v0), (1, .int (v1 + (-1))), (2, .float (FP.fmul v2 FP.fconst2)), (3, .int (v3 + 1))] [] M h D Q)))))) : EvI d nX3_bitsOf 43 [(0, .float v0), (1, .int v1), (2, .float v2), (3, .int v3)] [] M h D Q := by
  refine ev_iload_n (pc1 := 44) rfl (TBof tbs_62 _ rfl) rfl ?_
  refine ev_sipush (pc1 := 47) (x := 128) (by decide) (TBof tbs_62 _ rfl) rfl ?_
  refine ev_icmp (pc1 := 50) (t := 69) (TBof tbs_62 _ rfl) (by decide) rfl (fun c1 => ?_) (fun c1 => ?_)
  · replace H := H.1 c1
    exact ev_le [0, 1, 2, 3] rfl rfl H
  · replace H := H.2 c1
    refine ev_fload_n (pc1 := 51) rfl (TBof tbs_62 _ rfl) rfl ?_
    refine ev_fconst1 (pc1 := 52) (TBof tbs_62 _ rfl) rfl ?_
    refine ev_fcmp (pc1 := 53) (TBof tbs_62 _ rfl) rfl ?_
    refine ev_if (pc1 := 56) (t := 69) (TBof tbs_62 _ rfl) (by decide) rfl (fun c2 => ?_) (fun c2 => ?_)
    · replace H := H.1 c2
      exact ev_le [0, 1, 2, 3] rfl rfl H
    · replace H := H.2 c2
      refine ev_fload_n (pc1 := 57) rfl (TBof tbs_62 _ rfl) rfl ?_
      refine ev_fconst2 (pc1 := 58) (TBof tbs_62 _ rfl) rfl ?_
      refine ev_fmul (pc1 := 59) H.1 (TBof tbs_62 _ rfl) rfl ?_
      replace H := H.2
      refine ev_fstore_n (pc1 := 60) (L1 := [(2, .float (FP.fmul v2 FP.fconst2)), (0, .float v0), (1, .int v1), (3, .int v3)]) (by rw [ml_62]; decide) rfl (TBof tbs_62 _ rfl) rfl ?_
      refine ev_iinc (pc1 := 63) (n := 1) (c := -1) (x := v1) (cc := (-1)) (L1 := [(1, .int (v1 + (-1))), (2, .float (FP.fmul v2 FP.fconst2)), (0, .float v0), (3, .int v3)]) rfl (by rw [ml_62]; decide) (by decide) rfl (TBof tbs_62 _ rfl) rfl ?_
      refine ev_iinc (pc1 := 66) (n := 3) (c := 1) (x := v3) (cc := 1) (L1 := [(3, .int (v3 + 1)), (1, .int (v1 + (-1))), (2, .float (FP.fmul v2 FP.fconst2)), (0, .float v0)]) rfl (by rw [ml_62]; decide) (by decide) rfl (TBof tbs_62 _ rfl) rfl ?_
      refine ev_goto (pc1 := 43) (TBof tbs_62 _ rfl) (by decide) ?_
      exact ev_le [3, 1, 2, 0] rfl rfl H
set_option maxRecDepth 100000 in
theorem R_X3_bitsOf_69 {d : Nat} {v0 v2 : UInt32} {v1 v3 : Int32} {M : Im} {h : Hm} {D : Dm} {Q : Int32 → Im → Hm → Dm → Prop} (H : vf_n32 (FP.fsub v2 FP.fconst1) ∧ (vf_n32 (FP.fmul (FP.fsub v2 FP.fconst1) 1258291200) ∧ (Q ((v1 <<< (23 &&& 31)) ||| (FP.f2i (FP.fmul (FP.fsub v2 FP.fconst1) 1258291200))) M h D))) : EvI d nX3_bitsOf 69 [(0, .float v0), (1, .int v1), (2, .float v2), (3, .int v3)] [] M h D Q := by
  refine ev_fload_n (pc1 := 70) rfl (TBof tbs_62 _ rfl) rfl ?_
  refine ev_fconst1 (pc1 := 71) (TBof tbs_62 _ rfl) rfl ?_
  refine ev_fsub (pc1 := 72) H.1 (TBof tbs_62 _ rfl) rfl ?_
  replace H := H.2
  refine ev_ldcf (pc1 := 74) (x := 1258291200) rfl (TBof tbs_62 _ rfl) rfl ?_
  refine ev_fmul (pc1 := 75) H.1 (TBof tbs_62 _ rfl) rfl ?_
  replace H := H.2
  refine ev_f2i (pc1 := 76) (TBof tbs_62 _ rfl) rfl ?_
  refine ev_istore_n (pc1 := 77) (L1 := [(3, .int (FP.f2i (FP.fmul (FP.fsub v2 FP.fconst1) 1258291200))), (0, .float v0), (1, .int v1), (2, .float v2)]) (by rw [ml_62]; decide) rfl (TBof tbs_62 _ rfl) rfl ?_
  refine ev_iload_n (pc1 := 78) rfl (TBof tbs_62 _ rfl) rfl ?_
  refine ev_bipush (pc1 := 80) (x := 23) (by decide) (TBof tbs_62 _ rfl) rfl ?_
  refine ev_ishl (pc1 := 81) (TBof tbs_62 _ rfl) rfl ?_
  refine ev_iload_n (pc1 := 82) rfl (TBof tbs_62 _ rfl) rfl ?_
  refine ev_ior (pc1 := 83) (TBof tbs_62 _ rfl) rfl ?_
  exact ev_ireturn (TBof tbs_62 _ rfl) (retI_i rt_62) ⟨_, rfl, H⟩
set_option maxRecDepth 100000 in
theorem R_X3_recordState_0 {d : Nat} {M : Im} {h : Hm} {D : Dm} {Q : Im → Hm → Dm → Prop} (H : (((M 0 6) < 4) → (EvV d nX3_recordState 12 [(0, .ref 0)] [] M h D Q)) ∧ (¬ ((M 0 6) < 4) → (CV d nX3_dropOldest [.ref 0] M h D (fun M2 h2 D2 => EvV d nX3_recordState 12 [(0, .ref 0)] [] M2 h2 D2 Q)))) : EvV d nX3_recordState 0 [(0, .ref 0)] [] M h D Q := by
  refine ev_aload_n (pc1 := 1) rfl rfl (TBof tbs_63 _ rfl) rfl ?_
  refine ev_getI (pc1 := 4) (ci := 3) (k := 6) (TBof tbs_63 _ rfl) rfl (fldof mo_63 fl_3_40) ltc_0 sh_0 nk_3_6 fi_3_6 ?_
  refine ev_iconst (pc1 := 5) (x := 4) (by decide) (TBof tbs_63 _ rfl) rfl ?_
  refine ev_icmp (pc1 := 8) (t := 12) (TBof tbs_63 _ rfl) (by decide) rfl (fun c1 => ?_) (fun c1 => ?_)
  · replace H := H.1 c1
    exact ev_le [0] rfl rfl H
  · replace H := H.2 c1
    refine ev_aload_n (pc1 := 9) rfl rfl (TBof tbs_63 _ rfl) rfl ?_
    refine ev_callvV (pc1 := 12) (as := []) (r := []) (TBof tbs_63 _ rfl) rfl (lnkof mo_63 ln_3_249) rfl na_64 ltc_0 (sh_0.trans (by rw [mo_64])) (Nat.le_of_ble_eq_true rfl) H (fun M2 h2 D2 H => ?_)
    exact ev_le [0] rfl rfl H
set_option maxRecDepth 100000 in
theorem R_X3_recordState_12 {d : Nat} {M : Im} {h : Hm} {D : Dm} {Q : Im → Hm → Dm → Prop} (H : vp_in (M 0 6) 4 ∧ (∃ a1, h ((M 0 6).toNatClampNeg) = some a1 ∧ St a1 ∧ (CV d nX3_copyState [.ref 1, .ref a1] M h D (fun M2 h2 D2 => Q (up2 M2 0 6 ((M2 0 6) + 1)) h2 D2)))) : EvV d nX3_recordState 12 [(0, .ref 0)] [] M h D Q := by
  refine ev_aload_n (pc1 := 13) rfl rfl (TBof tbs_63 _ rfl) rfl ?_
  refine ev_getP (pc1 := 16) (ci := 3) (k := 0) (a := 1) (TBof tbs_63 _ rfl) rfl (fldof mo_63 fl_3_12) ltc_0 sh_0 nk_3_0 fp_3_0 (by decide) pf_0_0 ?_
  refine ev_aload_n (pc1 := 17) rfl rfl (TBof tbs_63 _ rfl) rfl ?_
  refine ev_getP (pc1 := 20) (ci := 3) (k := 3) (a := 28) (TBof tbs_63 _ rfl) rfl (fldof mo_63 fl_3_22) ltc_0 sh_0 nk_3_3 fp_3_3 (by decide) pf_0_3 ?_
  refine ev_aload_n (pc1 := 21) rfl rfl (TBof tbs_63 _ rfl) rfl ?_
  refine ev_getI (pc1 := 24) (ci := 3) (k := 6) (TBof tbs_63 _ rfl) rfl (fldof mo_63 fl_3_40) ltc_0 sh_0 nk_3_6 fi_3_6 ?_
  obtain ⟨g1, a1, f1, ha1, H⟩ := H
  refine ev_aaload (pc1 := 25) (TBof tbs_63 _ rfl) rfl g1 f1 ?_
  refine ev_callsV (pc1 := 28) (as := [.ref 1, .ref a1]) (r := []) (TBof tbs_63 _ rfl) rfl (lnkof mo_63 ln_3_184) (Or.inl rfl) rfl na_65 (Nat.le_of_ble_eq_true rfl) H (fun M2 h2 D2 H => ?_)
  refine ev_aload_n (pc1 := 29) rfl rfl (TBof tbs_63 _ rfl) rfl ?_
  refine ev_dup (pc1 := 30) rfl (TBof tbs_63 _ rfl) rfl ?_
  refine ev_getI (pc1 := 33) (ci := 3) (k := 6) (TBof tbs_63 _ rfl) rfl (fldof mo_63 fl_3_40) ltc_0 sh_0 nk_3_6 fi_3_6 ?_
  refine ev_iconst (pc1 := 34) (x := 1) (by decide) (TBof tbs_63 _ rfl) rfl ?_
  refine ev_iadd (pc1 := 35) (TBof tbs_63 _ rfl) rfl ?_
  refine ev_putI (pc1 := 38) (ci := 3) (k := 6) (TBof tbs_63 _ rfl) rfl (fldof mo_63 fl_3_40) ltc_0 sh_0 nk_3_6 rfl rfl ?_
  exact ev_return (TBof tbs_63 _ rfl) rt_63 ⟨rfl, H⟩
set_option maxRecDepth 100000 in
theorem R_X3_dropOldest_0 {d : Nat} {M : Im} {h : Hm} {D : Dm} {Q : Im → Hm → Dm → Prop} (H : vp_in 0 4 ∧ (∃ a1, h ((0 : Int32).toNatClampNeg) = some a1 ∧ St a1 ∧ (EvV d nX3_dropOldest 9 [(0, .ref 0), (1, .ref a1), (2, .int 1)] [] M h D Q))) : EvV d nX3_dropOldest 0 [(0, .ref 0)] [] M h D Q := by
  refine ev_aload_n (pc1 := 1) rfl rfl (TBof tbs_64 _ rfl) rfl ?_
  refine ev_getP (pc1 := 4) (ci := 3) (k := 3) (a := 28) (TBof tbs_64 _ rfl) rfl (fldof mo_64 fl_3_22) ltc_0 sh_0 nk_3_3 fp_3_3 (by decide) pf_0_3 ?_
  refine ev_iconst (pc1 := 5) (x := 0) (by decide) (TBof tbs_64 _ rfl) rfl ?_
  obtain ⟨g1, a1, f1, ha1, H⟩ := H
  refine ev_aaload (pc1 := 6) (TBof tbs_64 _ rfl) rfl g1 f1 ?_
  refine ev_astore_n (pc1 := 7) (L1 := [(1, .ref a1), (0, .ref 0)]) (by rw [ml_64]; decide) rfl (TBof tbs_64 _ rfl) rfl ?_
  refine ev_iconst (pc1 := 8) (x := 1) (by decide) (TBof tbs_64 _ rfl) rfl ?_
  refine ev_istore_n (pc1 := 9) (L1 := [(2, .int 1), (1, .ref a1), (0, .ref 0)]) (by rw [ml_64]; decide) rfl (TBof tbs_64 _ rfl) rfl ?_
  exact ev_le [2, 1, 0] rfl rfl H
set_option maxRecDepth 100000 in
theorem R_X3_dropOldest_9 {d : Nat} {r1 : Nat} {v2 : Int32} {M : Im} {h : Hm} {D : Dm} {Q : Im → Hm → Dm → Prop} (hr1 : St r1) (H : ((4 ≤ v2) → (vp_in 3 4 ∧ (Q (up2 M 0 6 3) (va_up h ((3 : Int32).toNatClampNeg) (some r1)) D))) ∧ (¬ (4 ≤ v2) → (vp_in v2 4 ∧ (∃ a2, h (v2.toNatClampNeg) = some a2 ∧ St a2 ∧ (vp_in (v2 - 1) 4 ∧ (EvV d nX3_dropOldest 9 [(0, .ref 0), (1, .ref r1), (2, .int (v2 + 1))] [] M (va_up h ((v2 - 1).toNatClampNeg) (some a2)) D Q)))))) : EvV d nX3_dropOldest 9 [(0, .ref 0), (1, .ref r1), (2, .int v2)] [] M h D Q := by
  refine ev_iload_n (pc1 := 10) rfl (TBof tbs_64 _ rfl) rfl ?_
  refine ev_iconst (pc1 := 11) (x := 4) (by decide) (TBof tbs_64 _ rfl) rfl ?_
  refine ev_icmp (pc1 := 14) (t := 34) (TBof tbs_64 _ rfl) (by decide) rfl (fun c1 => ?_) (fun c1 => ?_)
  · replace H := H.1 c1
    refine ev_aload_n (pc1 := 35) rfl rfl (TBof tbs_64 _ rfl) rfl ?_
    refine ev_getP (pc1 := 38) (ci := 3) (k := 3) (a := 28) (TBof tbs_64 _ rfl) rfl (fldof mo_64 fl_3_22) ltc_0 sh_0 nk_3_3 fp_3_3 (by decide) pf_0_3 ?_
    refine ev_iconst (pc1 := 39) (x := 3) (by decide) (TBof tbs_64 _ rfl) rfl ?_
    refine ev_aload_n (pc1 := 40) rfl rfl (TBof tbs_64 _ rfl) rfl ?_
    refine ev_aastore (pc1 := 41) (TBof tbs_64 _ rfl) rfl H.1 hr1.lt0 hr1.sh ?_
    replace H := H.2
    refine ev_aload_n (pc1 := 42) rfl rfl (TBof tbs_64 _ rfl) rfl ?_
    refine ev_iconst (pc1 := 43) (x := 3) (by decide) (TBof tbs_64 _ rfl) rfl ?_
    refine ev_putI (pc1 := 46) (ci := 3) (k := 6) (TBof tbs_64 _ rfl) rfl (fldof mo_64 fl_3_40) ltc_0 sh_0 nk_3_6 rfl rfl ?_
    exact ev_return (TBof tbs_64 _ rfl) rt_64 ⟨rfl, H⟩
  · replace H := H.2 c1
    refine ev_aload_n (pc1 := 15) rfl rfl (TBof tbs_64 _ rfl) rfl ?_
    refine ev_getP (pc1 := 18) (ci := 3) (k := 3) (a := 28) (TBof tbs_64 _ rfl) rfl (fldof mo_64 fl_3_22) ltc_0 sh_0 nk_3_3 fp_3_3 (by decide) pf_0_3 ?_
    refine ev_iload_n (pc1 := 19) rfl (TBof tbs_64 _ rfl) rfl ?_
    refine ev_iconst (pc1 := 20) (x := 1) (by decide) (TBof tbs_64 _ rfl) rfl ?_
    refine ev_isub (pc1 := 21) (TBof tbs_64 _ rfl) rfl ?_
    refine ev_aload_n (pc1 := 22) rfl rfl (TBof tbs_64 _ rfl) rfl ?_
    refine ev_getP (pc1 := 25) (ci := 3) (k := 3) (a := 28) (TBof tbs_64 _ rfl) rfl (fldof mo_64 fl_3_22) ltc_0 sh_0 nk_3_3 fp_3_3 (by decide) pf_0_3 ?_
    refine ev_iload_n (pc1 := 26) rfl (TBof tbs_64 _ rfl) rfl ?_
    obtain ⟨g2, a2, f2, ha2, H⟩ := H
    refine ev_aaload (pc1 := 27) (TBof tbs_64 _ rfl) rfl g2 f2 ?_
    refine ev_aastore (pc1 := 28) (TBof tbs_64 _ rfl) rfl H.1 ha2.lt0 ha2.sh ?_
    replace H := H.2
    refine ev_iinc (pc1 := 31) (n := 2) (c := 1) (x := v2) (cc := 1) (L1 := [(2, .int (v2 + 1)), (0, .ref 0), (1, .ref r1)]) rfl (by rw [ml_64]; decide) (by decide) rfl (TBof tbs_64 _ rfl) rfl ?_
    refine ev_goto (pc1 := 9) (TBof tbs_64 _ rfl) (by decide) ?_
    exact ev_le [1, 2, 0] rfl rfl H
set_option maxRecDepth 100000 in
theorem R_X3_copyState_0 {d : Nat} {S : Nat} {T : Nat} {M : Im} {h : Hm} {D : Dm} {Q : Im → Hm → Dm → Prop} (hS : St S) (hT : St T) (H : CV d nX2_copyFrom [.ref T, .ref S] M h D (fun M1 h1 D1 => Q M1 h1 D1)) : EvV d nX3_copyState 0 [(0, .ref S), (1, .ref T)] [] M h D Q := by
  refine ev_aload_n (pc1 := 1) rfl rfl (TBof tbs_65 _ rfl) rfl ?_
  refine ev_ifnull (pc1 := 4) (TBof tbs_65 _ rfl) rfl ?_
  refine ev_aload_n (pc1 := 5) rfl rfl (TBof tbs_65 _ rfl) rfl ?_
  refine ev_ifnull (pc1 := 8) (TBof tbs_65 _ rfl) rfl ?_
  refine ev_aload_n (pc1 := 9) rfl rfl (TBof tbs_65 _ rfl) rfl ?_
  refine ev_aload_n (pc1 := 10) rfl rfl (TBof tbs_65 _ rfl) rfl ?_
  refine ev_callvV (pc1 := 13) (as := [.ref S]) (r := []) (TBof tbs_65 _ rfl) rfl (lnkof mo_65 ln_3_252) rfl na_14 hT.lt0 (hT.sh.trans (by rw [mo_14])) (Nat.le_of_ble_eq_true rfl) H (fun M1 h1 D1 H => ?_)
  exact ev_return (TBof tbs_65 _ rfl) rt_65 ⟨rfl, H⟩
set_option maxRecDepth 100000 in
theorem R_X3_canComeTo_0 {d : Nat} {v1 : Int32} {M : Im} {h : Hm} {D : Dm} {Q : Int32 → Im → Hm → Dm → Prop} (H : CV d nX3_copyState [.ref 1, .ref 19] M h D (fun M1 h1 D1 => CV d nX2_makeAllSteps [.ref 19] M1 h1 D1 (fun M2 h2 D2 => CI d nX2_isOpen [.ref 19, .int v1] M2 h2 D2 (fun x3 M3 h3 D3 => ((x3 = 0) → (Q 0 M3 h3 D3)) ∧ (¬ (x3 = 0) → (CI d nX2_isReached [.ref 19, .int v1] M3 h3 D3 (fun x5 M5 h5 D5 => ((x5 = 0) → (Q 0 M5 h5 D5)) ∧ (¬ (x5 = 0) → (Q 1 M5 h5 D5))))))))) : EvI d nX3_canComeTo 0 [(0, .ref 0), (1, .int v1)] [] M h D Q := by
  refine ev_aload_n (pc1 := 1) rfl rfl (TBof tbs_66 _ rfl) rfl ?_
  refine ev_getP (pc1 := 4) (ci := 3) (k := 0) (a := 1) (TBof tbs_66 _ rfl) rfl (fldof mo_66 fl_3_12) ltc_0 sh_0 nk_3_0 fp_3_0 (by decide) pf_0_0 ?_
  refine ev_aload_n (pc1 := 5) rfl rfl (TBof tbs_66 _ rfl) rfl ?_
  refine ev_getP (pc1 := 8) (ci := 3) (k := 2) (a := 19) (TBof tbs_66 _ rfl) rfl (fldof mo_66 fl_3_19) ltc_0 sh_0 nk_3_2 fp_3_2 (by decide) pf_0_2 ?_
  refine ev_callsV (pc1 := 11) (as := [.ref 1, .ref 19]) (r := []) (TBof tbs_66 _ rfl) rfl (lnkof mo_66 ln_3_184) (Or.inl rfl) rfl na_65 (Nat.le_of_ble_eq_true rfl) H (fun M1 h1 D1 H => ?_)
  refine ev_aload_n (pc1 := 12) rfl rfl (TBof tbs_66 _ rfl) rfl ?_
  refine ev_getP (pc1 := 15) (ci := 3) (k := 2) (a := 19) (TBof tbs_66 _ rfl) rfl (fldof mo_66 fl_3_19) ltc_0 sh_0 nk_3_2 fp_3_2 (by decide) pf_0_2 ?_
  refine ev_callvV (pc1 := 18) (as := []) (r := []) (TBof tbs_66 _ rfl) rfl (lnkof mo_66 ln_3_256) rfl na_30 ltc_19 (sh_19.trans (by rw [mo_30])) (Nat.le_of_ble_eq_true rfl) H (fun M2 h2 D2 H => ?_)
  refine ev_aload_n (pc1 := 19) rfl rfl (TBof tbs_66 _ rfl) rfl ?_
  refine ev_getP (pc1 := 22) (ci := 3) (k := 2) (a := 19) (TBof tbs_66 _ rfl) rfl (fldof mo_66 fl_3_19) ltc_0 sh_0 nk_3_2 fp_3_2 (by decide) pf_0_2 ?_
  refine ev_iload_n (pc1 := 23) rfl (TBof tbs_66 _ rfl) rfl ?_
  refine ev_callvI (pc1 := 26) (as := [.int v1]) (r := []) (TBof tbs_66 _ rfl) rfl (lnkof mo_66 ln_3_119) rfl na_19 ltc_19 (sh_19.trans (by rw [mo_19])) (Nat.le_of_ble_eq_true rfl) H (fun x3 M3 h3 D3 H => ?_)
  refine ev_if (pc1 := 29) (t := 44) (TBof tbs_66 _ rfl) (by decide) rfl (fun c4 => ?_) (fun c4 => ?_)
  · replace H := H.1 c4
    refine ev_iconst (pc1 := 45) (x := 0) (by decide) (TBof tbs_66 _ rfl) rfl ?_
    exact ev_ireturn (TBof tbs_66 _ rfl) (retI_z rt_66 (Or.inl rfl)) ⟨_, rfl, H⟩
  · replace H := H.2 c4
    refine ev_aload_n (pc1 := 30) rfl rfl (TBof tbs_66 _ rfl) rfl ?_
    refine ev_getP (pc1 := 33) (ci := 3) (k := 2) (a := 19) (TBof tbs_66 _ rfl) rfl (fldof mo_66 fl_3_19) ltc_0 sh_0 nk_3_2 fp_3_2 (by decide) pf_0_2 ?_
    refine ev_iload_n (pc1 := 34) rfl (TBof tbs_66 _ rfl) rfl ?_
    refine ev_callvI (pc1 := 37) (as := [.int v1]) (r := []) (TBof tbs_66 _ rfl) rfl (lnkof mo_66 ln_3_144) rfl na_21 ltc_19 (sh_19.trans (by rw [mo_21])) (Nat.le_of_ble_eq_true rfl) H (fun x5 M5 h5 D5 H => ?_)
    refine ev_if (pc1 := 40) (t := 44) (TBof tbs_66 _ rfl) (by decide) rfl (fun c6 => ?_) (fun c6 => ?_)
    · replace H := H.1 c6
      refine ev_iconst (pc1 := 45) (x := 0) (by decide) (TBof tbs_66 _ rfl) rfl ?_
      exact ev_ireturn (TBof tbs_66 _ rfl) (retI_z rt_66 (Or.inl rfl)) ⟨_, rfl, H⟩
    · replace H := H.2 c6
      refine ev_iconst (pc1 := 41) (x := 1) (by decide) (TBof tbs_66 _ rfl) rfl ?_
      refine ev_goto (pc1 := 45) (TBof tbs_66 _ rfl) (by decide) ?_
      exact ev_ireturn (TBof tbs_66 _ rfl) (retI_z rt_66 (Or.inr rfl)) ⟨_, rfl, H⟩
set_option maxRecDepth 100000 in
theorem R_X3_neverOpened_0 {d : Nat} {M : Im} {h : Hm} {D : Dm} {Q : Int32 → Im → Hm → Dm → Prop} (H : CV d nX3_copyState [.ref 1, .ref 19] M h D (fun M1 h1 D1 => CV d nX2_putBack [.ref 19] M1 h1 D1 (fun M2 h2 D2 => CV d nX2_makeAllSteps [.ref 19] M2 h2 D2 (fun M3 h3 D3 => CI d nX3_bit [.int (M3 19 0)] M3 h3 D3 (fun x4 M4 h4 D4 => Q ((x4 - 1) &&& ((M4 19 4) ^^^ (-1))) M4 h4 D4))))) : EvI d nX3_neverOpened 0 [(0, .ref 0)] [] M h D Q := by
  refine ev_aload_n (pc1 := 1) rfl rfl (TBof tbs_67 _ rfl) rfl ?_
  refine ev_getP (pc1 := 4) (ci := 3) (k := 0) (a := 1) (TBof tbs_67 _ rfl) rfl (fldof mo_67 fl_3_12) ltc_0 sh_0 nk_3_0 fp_3_0 (by decide) pf_0_0 ?_
  refine ev_aload_n (pc1 := 5) rfl rfl (TBof tbs_67 _ rfl) rfl ?_
  refine ev_getP (pc1 := 8) (ci := 3) (k := 2) (a := 19) (TBof tbs_67 _ rfl) rfl (fldof mo_67 fl_3_19) ltc_0 sh_0 nk_3_2 fp_3_2 (by decide) pf_0_2 ?_
  refine ev_callsV (pc1 := 11) (as := [.ref 1, .ref 19]) (r := []) (TBof tbs_67 _ rfl) rfl (lnkof mo_67 ln_3_184) (Or.inl rfl) rfl na_65 (Nat.le_of_ble_eq_true rfl) H (fun M1 h1 D1 H => ?_)
  refine ev_aload_n (pc1 := 12) rfl rfl (TBof tbs_67 _ rfl) rfl ?_
  refine ev_getP (pc1 := 15) (ci := 3) (k := 2) (a := 19) (TBof tbs_67 _ rfl) rfl (fldof mo_67 fl_3_19) ltc_0 sh_0 nk_3_2 fp_3_2 (by decide) pf_0_2 ?_
  refine ev_callvV (pc1 := 18) (as := []) (r := []) (TBof tbs_67 _ rfl) rfl (lnkof mo_67 ln_3_113) rfl na_17 ltc_19 (sh_19.trans (by rw [mo_17])) (Nat.le_of_ble_eq_true rfl) H (fun M2 h2 D2 H => ?_)
  refine ev_aload_n (pc1 := 19) rfl rfl (TBof tbs_67 _ rfl) rfl ?_
  refine ev_getP (pc1 := 22) (ci := 3) (k := 2) (a := 19) (TBof tbs_67 _ rfl) rfl (fldof mo_67 fl_3_19) ltc_0 sh_0 nk_3_2 fp_3_2 (by decide) pf_0_2 ?_
  refine ev_callvV (pc1 := 25) (as := []) (r := []) (TBof tbs_67 _ rfl) rfl (lnkof mo_67 ln_3_256) rfl na_30 ltc_19 (sh_19.trans (by rw [mo_30])) (Nat.le_of_ble_eq_true rfl) H (fun M3 h3 D3 H => ?_)
  refine ev_aload_n (pc1 := 26) rfl rfl (TBof tbs_67 _ rfl) rfl ?_
  refine ev_getP (pc1 := 29) (ci := 3) (k := 2) (a := 19) (TBof tbs_67 _ rfl) rfl (fldof mo_67 fl_3_19) ltc_0 sh_0 nk_3_2 fp_3_2 (by decide) pf_0_2 ?_
  refine ev_getI (pc1 := 32) (ci := 2) (k := 0) (TBof tbs_67 _ rfl) rfl (fldof mo_67 fl_3_56) ltc_19 sh_19 nk_2_0 fi_2_0 ?_
  refine ev_callsI (pc1 := 35) (as := [.int (M3 19 0)]) (r := []) (TBof tbs_67 _ rfl) rfl (lnkof mo_67 ln_3_147) (Or.inl rfl) rfl na_60 (Nat.le_of_ble_eq_true rfl) H (fun x4 M4 h4 D4 H => ?_)
  refine ev_iconst (pc1 := 36) (x := 1) (by decide) (TBof tbs_67 _ rfl) rfl ?_
  refine ev_isub (pc1 := 37) (TBof tbs_67 _ rfl) rfl ?_
  refine ev_aload_n (pc1 := 38) rfl rfl (TBof tbs_67 _ rfl) rfl ?_
  refine ev_getP (pc1 := 41) (ci := 3) (k := 2) (a := 19) (TBof tbs_67 _ rfl) rfl (fldof mo_67 fl_3_19) ltc_0 sh_0 nk_3_2 fp_3_2 (by decide) pf_0_2 ?_
  refine ev_getI (pc1 := 44) (ci := 2) (k := 4) (TBof tbs_67 _ rfl) rfl (fldof mo_67 fl_3_135) ltc_19 sh_19 nk_2_4 fi_2_4 ?_
  refine ev_iconst (pc1 := 45) (x := (-1)) (by decide) (TBof tbs_67 _ rfl) rfl ?_
  refine ev_ixor (pc1 := 46) (TBof tbs_67 _ rfl) rfl ?_
  refine ev_iand (pc1 := 47) (TBof tbs_67 _ rfl) rfl ?_
  exact ev_ireturn (TBof tbs_67 _ rfl) (retI_i rt_67) ⟨_, rfl, H⟩
end
section
/-! what each block of code asks: class 4 -/
set_option maxRecDepth 100000 in
theorem R_J6_bitCount_0f7a4_0 {d : Nat} {v0 : Int32} {M : Im} {h : Hm} {D : Dm} {Q : Int32 → Im → Hm → Dm → Prop} (H : ∀ w1 : Int32, w1 = ((v0 - (((v0.toUInt32 >>> ((1 : Int32).toUInt32 &&& Int32.toUInt32 31)).toInt32) &&& 1431655765)) &&& 858993459) + ((((v0 - (((v0.toUInt32 >>> ((1 : Int32).toUInt32 &&& Int32.toUInt32 31)).toInt32) &&& 1431655765)).toUInt32 >>> ((2 : Int32).toUInt32 &&& Int32.toUInt32 31)).toInt32) &&& 858993459) → (∀ w2 : Int32, w2 = ((w1 + ((w1.toUInt32 >>> ((4 : Int32).toUInt32 &&& Int32.toUInt32 31)).toInt32)) &&& 252645135) + ((((w1 + ((w1.toUInt32 >>> ((4 : Int32).toUInt32 &&& Int32.toUInt32 31)).toInt32)) &&& 252645135).toUInt32 >>> ((8 : Int32).toUInt32 &&& Int32.toUInt32 31)).toInt32) → (Q ((w2 + ((w2.toUInt32 >>> ((16 : Int32).toUInt32 &&& Int32.toUInt32 31)).toInt32)) &&& 63) M h D))) : EvI d nJ6_bitCount_0f7a4 0 [(0, .int v0)] [] M h D Q := by
  refine ev_iload_n (pc1 := 1) rfl (TBof tbs_68 _ rfl) rfl ?_
  refine ev_iload_n (pc1 := 2) rfl (TBof tbs_68 _ rfl) rfl ?_
  refine ev_iconst (pc1 := 3) (x := 1) (by decide) (TBof tbs_68 _ rfl) rfl ?_
  refine ev_iushr (pc1 := 4) (TBof tbs_68 _ rfl) rfl ?_
  refine ev_ldc_w (pc1 := 7) (x := 1431655765) rfl (TBof tbs_68 _ rfl) rfl ?_
  refine ev_iand (pc1 := 8) (TBof tbs_68 _ rfl) rfl ?_
  refine ev_isub (pc1 := 9) (TBof tbs_68 _ rfl) rfl ?_
  refine ev_istore_n (pc1 := 10) (L1 := [(0, .int (v0 - (((v0.toUInt32 >>> ((1 : Int32).toUInt32 &&& Int32.toUInt32 31)).toInt32) &&& 1431655765)))]) (by rw [ml_68]; decide) rfl (TBof tbs_68 _ rfl) rfl ?_
  refine ev_iload_n (pc1 := 11) rfl (TBof tbs_68 _ rfl) rfl ?_
  refine ev_ldc_w (pc1 := 14) (x := 858993459) rfl (TBof tbs_68 _ rfl) rfl ?_
  refine ev_iand (pc1 := 15) (TBof tbs_68 _ rfl) rfl ?_
  refine ev_iload_n (pc1 := 16) rfl (TBof tbs_68 _ rfl) rfl ?_
  refine ev_iconst (pc1 := 17) (x := 2) (by decide) (TBof tbs_68 _ rfl) rfl ?_
  refine ev_iushr (pc1 := 18) (TBof tbs_68 _ rfl) rfl ?_
  refine ev_ldc_w (pc1 := 21) (x := 858993459) rfl (TBof tbs_68 _ rfl) rfl ?_
  refine ev_iand (pc1 := 22) (TBof tbs_68 _ rfl) rfl ?_
  refine ev_iadd (pc1 := 23) (TBof tbs_68 _ rfl) rfl ?_
  refine ev_istore_n (pc1 := 24) (L1 := [(0, .int (((v0 - (((v0.toUInt32 >>> ((1 : Int32).toUInt32 &&& Int32.toUInt32 31)).toInt32) &&& 1431655765)) &&& 858993459) + ((((v0 - (((v0.toUInt32 >>> ((1 : Int32).toUInt32 &&& Int32.toUInt32 31)).toInt32) &&& 1431655765)).toUInt32 >>> ((2 : Int32).toUInt32 &&& Int32.toUInt32 31)).toInt32) &&& 858993459)))]) (by rw [ml_68]; decide) rfl (TBof tbs_68 _ rfl) rfl ?_
  generalize e1 : ((v0 - (((v0.toUInt32 >>> ((1 : Int32).toUInt32 &&& Int32.toUInt32 31)).toInt32) &&& 1431655765)) &&& 858993459) + ((((v0 - (((v0.toUInt32 >>> ((1 : Int32).toUInt32 &&& Int32.toUInt32 31)).toInt32) &&& 1431655765)).toUInt32 >>> ((2 : Int32).toUInt32 &&& Int32.toUInt32 31)).toInt32) &&& 858993459) = w1
  replace H := H w1 e1.symm
  refine ev_iload_n (pc1 := 25) rfl (TBof tbs_68 _ rfl) rfl ?_
  refine ev_iload_n (pc1 := 26) rfl (TBof tbs_68 _ rfl) rfl ?_
  refine ev_iconst (pc1 := 27) (x := 4) (by decide) (TBof tbs_68 _ rfl) rfl ?_
  refine ev_iushr (pc1 := 28) (TBof tbs_68 _ rfl) rfl ?_
  refine ev_iadd (pc1 := 29) (TBof tbs_68 _ rfl) rfl ?_
  refine ev_ldc_w (pc1 := 32) (x := 252645135) rfl (TBof tbs_68 _ rfl) rfl ?_
  refine ev_iand (pc1 := 33) (TBof tbs_68 _ rfl) rfl ?_
  refine ev_istore_n (pc1 := 34) (L1 := [(0, .int ((w1 + ((w1.toUInt32 >>> ((4 : Int32).toUInt32 &&& Int32.toUInt32 31)).toInt32)) &&& 252645135))]) (by rw [ml_68]; decide) rfl (TBof tbs_68 _ rfl) rfl ?_
  refine ev_iload_n (pc1 := 35) rfl (TBof tbs_68 _ rfl) rfl ?_
  refine ev_iload_n (pc1 := 36) rfl (TBof tbs_68 _ rfl) rfl ?_
  refine ev_bipush (pc1 := 38) (x := 8) (by decide) (TBof tbs_68 _ rfl) rfl ?_
  refine ev_iushr (pc1 := 39) (TBof tbs_68 _ rfl) rfl ?_
  refine ev_iadd (pc1 := 40) (TBof tbs_68 _ rfl) rfl ?_
  refine ev_istore_n (pc1 := 41) (L1 := [(0, .int (((w1 + ((w1.toUInt32 >>> ((4 : Int32).toUInt32 &&& Int32.toUInt32 31)).toInt32)) &&& 252645135) + ((((w1 + ((w1.toUInt32 >>> ((4 : Int32).toUInt32 &&& Int32.toUInt32 31)).toInt32)) &&& 252645135).toUInt32 >>> ((8 : Int32).toUInt32 &&& Int32.toUInt32 31)).toInt32)))]) (by rw [ml_68]; decide) rfl (TBof tbs_68 _ rfl) rfl ?_
  generalize e2 : ((w1 + ((w1.toUInt32 >>> ((4 : Int32).toUInt32 &&& Int32.toUInt32 31)).toInt32)) &&& 252645135) + ((((w1 + ((w1.toUInt32 >>> ((4 : Int32).toUInt32 &&& Int32.toUInt32 31)).toInt32)) &&& 252645135).toUInt32 >>> ((8 : Int32).toUInt32 &&& Int32.toUInt32 31)).toInt32) = w2
  replace H := H w2 e2.symm
  refine ev_iload_n (pc1 := 42) rfl (TBof tbs_68 _ rfl) rfl ?_
  refine ev_iload_n (pc1 := 43) rfl (TBof tbs_68 _ rfl) rfl ?_
  refine ev_bipush (pc1 := 45) (x := 16) (by decide) (TBof tbs_68 _ rfl) rfl ?_
  refine ev_iushr (pc1 := 46) (TBof tbs_68 _ rfl) rfl ?_
  refine ev_iadd (pc1 := 47) (TBof tbs_68 _ rfl) rfl ?_
  refine ev_istore_n (pc1 := 48) (L1 := [(0, .int (w2 + ((w2.toUInt32 >>> ((16 : Int32).toUInt32 &&& Int32.toUInt32 31)).toInt32)))]) (by rw [ml_68]; decide) rfl (TBof tbs_68 _ rfl) rfl ?_
  refine ev_iload_n (pc1 := 49) rfl (TBof tbs_68 _ rfl) rfl ?_
  refine ev_bipush (pc1 := 51) (x := 63) (by decide) (TBof tbs_68 _ rfl) rfl ?_
  refine ev_iand (pc1 := 52) (TBof tbs_68 _ rfl) rfl ?_
  exact ev_ireturn (TBof tbs_68 _ rfl) (retI_i rt_68) ⟨_, rfl, H⟩
end

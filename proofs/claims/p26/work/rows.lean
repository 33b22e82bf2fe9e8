section
-- ===== PART A: goes FIRST, ahead of the names: the tables' words, and 'selects' of the private methods out of them =====
/-- a private method of a class that the tables say can be made, by its rows of tables_1 -/
def lw_okq (q : MethodName × Nat) : Prop := (q.1.cls ≠ "java/lang/invoke/MethodHandle" ∧ q.1.cls ≠ "java/lang/invoke/VarHandle") ∧ Cond.instantiable q.1.cls q.2 ∈ tables_1 ∧ Cond.privateMethod q.1 ∈ tables_1 ∧ Cond.instanceMethod q.1 ∈ tables_1
theorem lw_p0 : lw_okq (⟨"DrawerCabinet", "recordState", "()V"⟩, 8) := ⟨⟨by decide +kernel, by decide +kernel⟩, List.mem_of_getElem? (i := 9) (by decide +kernel), List.mem_of_getElem? (i := 176) (by decide +kernel), List.mem_of_getElem? (i := 177) (by decide +kernel)⟩
theorem lw_p1 : lw_okq (⟨"DrawerCabinet", "dropOldest", "()V"⟩, 8) := ⟨⟨by decide +kernel, by decide +kernel⟩, List.mem_of_getElem? (i := 9) (by decide +kernel), List.mem_of_getElem? (i := 180) (by decide +kernel), List.mem_of_getElem? (i := 181) (by decide +kernel)⟩
theorem lw_p2 : lw_okq (⟨"DrawerCabinet", "canComeTo", "(I)Z"⟩, 8) := ⟨⟨by decide +kernel, by decide +kernel⟩, List.mem_of_getElem? (i := 9) (by decide +kernel), List.mem_of_getElem? (i := 234) (by decide +kernel), List.mem_of_getElem? (i := 235) (by decide +kernel)⟩
theorem lw_p3 : lw_okq (⟨"DrawerCabinet$State", "makeSteps", "()Z"⟩, 15) := ⟨⟨by decide +kernel, by decide +kernel⟩, List.mem_of_getElem? (i := 17) (by decide +kernel), List.mem_of_getElem? (i := 242) (by decide +kernel), List.mem_of_getElem? (i := 243) (by decide +kernel)⟩
theorem lw_p4 : lw_okq (⟨"DrawerCabinet$State", "isLetByHold", "(I)Z"⟩, 15) := ⟨⟨by decide +kernel, by decide +kernel⟩, List.mem_of_getElem? (i := 17) (by decide +kernel), List.mem_of_getElem? (i := 258) (by decide +kernel), List.mem_of_getElem? (i := 259) (by decide +kernel)⟩
theorem lw_p5 : lw_okq (⟨"DrawerCabinet$Plan", "addWayInto", "(LDrawerCabinet$State;I)V"⟩, 3) := ⟨⟨by decide +kernel, by decide +kernel⟩, List.mem_of_getElem? (i := 92) (by decide +kernel), List.mem_of_getElem? (i := 291) (by decide +kernel), List.mem_of_getElem? (i := 292) (by decide +kernel)⟩
theorem lw_p6 : lw_okq (⟨"DrawerCabinet$Plan", "addOpening", "(LDrawerCabinet$State;I)V"⟩, 3) := ⟨⟨by decide +kernel, by decide +kernel⟩, List.mem_of_getElem? (i := 92) (by decide +kernel), List.mem_of_getElem? (i := 296) (by decide +kernel), List.mem_of_getElem? (i := 297) (by decide +kernel)⟩
theorem lw_p7 : lw_okq (⟨"DrawerCabinet$Plan", "addNeedsOfAll", "(LDrawerCabinet$State;)V"⟩, 3) := ⟨⟨by decide +kernel, by decide +kernel⟩, List.mem_of_getElem? (i := 92) (by decide +kernel), List.mem_of_getElem? (i := 319) (by decide +kernel), List.mem_of_getElem? (i := 320) (by decide +kernel)⟩
theorem lw_p8 : lw_okq (⟨"DrawerCabinet$Plan", "addNeedsOfOpening", "(LDrawerCabinet$State;I)V"⟩, 3) := ⟨⟨by decide +kernel, by decide +kernel⟩, List.mem_of_getElem? (i := 92) (by decide +kernel), List.mem_of_getElem? (i := 326) (by decide +kernel), List.mem_of_getElem? (i := 327) (by decide +kernel)⟩
theorem lw_p9 : lw_okq (⟨"DrawerCabinet$Plan", "addTaking", "(LDrawerCabinet$State;I)V"⟩, 3) := ⟨⟨by decide +kernel, by decide +kernel⟩, List.mem_of_getElem? (i := 92) (by decide +kernel), List.mem_of_getElem? (i := 330) (by decide +kernel), List.mem_of_getElem? (i := 331) (by decide +kernel)⟩
theorem lw_p10 : lw_okq (⟨"DrawerCabinet$Plan", "isLiftingIn", "(LDrawerCabinet$State;I)Z"⟩, 3) := ⟨⟨by decide +kernel, by decide +kernel⟩, List.mem_of_getElem? (i := 92) (by decide +kernel), List.mem_of_getElem? (i := 335) (by decide +kernel), List.mem_of_getElem? (i := 336) (by decide +kernel)⟩
theorem lw_p11 : lw_okq (⟨"DrawerCabinet$Plan", "addNeedsOfTaking", "(LDrawerCabinet$State;I)V"⟩, 3) := ⟨⟨by decide +kernel, by decide +kernel⟩, List.mem_of_getElem? (i := 92) (by decide +kernel), List.mem_of_getElem? (i := 339) (by decide +kernel), List.mem_of_getElem? (i := 340) (by decide +kernel)⟩
theorem lw_p12 : lw_okq (⟨"DrawerCabinet", "neverOpened", "()I"⟩, 8) := ⟨⟨by decide +kernel, by decide +kernel⟩, List.mem_of_getElem? (i := 9) (by decide +kernel), List.mem_of_getElem? (i := 373) (by decide +kernel), List.mem_of_getElem? (i := 374) (by decide +kernel)⟩
def lw_privs_1 : List (MethodName × Nat) := [(⟨"DrawerCabinet", "recordState", "()V"⟩, 8), (⟨"DrawerCabinet", "dropOldest", "()V"⟩, 8), (⟨"DrawerCabinet", "canComeTo", "(I)Z"⟩, 8), (⟨"DrawerCabinet$State", "makeSteps", "()Z"⟩, 15), (⟨"DrawerCabinet$State", "isLetByHold", "(I)Z"⟩, 15), (⟨"DrawerCabinet$Plan", "addWayInto", "(LDrawerCabinet$State;I)V"⟩, 3), (⟨"DrawerCabinet$Plan", "addOpening", "(LDrawerCabinet$State;I)V"⟩, 3), (⟨"DrawerCabinet$Plan", "addNeedsOfAll", "(LDrawerCabinet$State;)V"⟩, 3), (⟨"DrawerCabinet$Plan", "addNeedsOfOpening", "(LDrawerCabinet$State;I)V"⟩, 3), (⟨"DrawerCabinet$Plan", "addTaking", "(LDrawerCabinet$State;I)V"⟩, 3), (⟨"DrawerCabinet$Plan", "isLiftingIn", "(LDrawerCabinet$State;I)Z"⟩, 3), (⟨"DrawerCabinet$Plan", "addNeedsOfTaking", "(LDrawerCabinet$State;I)V"⟩, 3), (⟨"DrawerCabinet", "neverOpened", "()I"⟩, 8)]
theorem lw_r1 : ∀ q ∈ lw_privs_1, lw_okq q := List.forall_mem_cons.mpr ⟨lw_p0, List.forall_mem_cons.mpr ⟨lw_p1, List.forall_mem_cons.mpr ⟨lw_p2, List.forall_mem_cons.mpr ⟨lw_p3, List.forall_mem_cons.mpr ⟨lw_p4, List.forall_mem_cons.mpr ⟨lw_p5, List.forall_mem_cons.mpr ⟨lw_p6, List.forall_mem_cons.mpr ⟨lw_p7, List.forall_mem_cons.mpr ⟨lw_p8, List.forall_mem_cons.mpr ⟨lw_p9, List.forall_mem_cons.mpr ⟨lw_p10, List.forall_mem_cons.mpr ⟨lw_p11, List.forall_mem_cons.mpr ⟨lw_p12, fun _ h => absurd h List.not_mem_nil⟩⟩⟩⟩⟩⟩⟩⟩⟩⟩⟩⟩⟩
def lw_privs : List (MethodName × Nat) := lw_privs_1
def lw_tbl : List Cond := k2_sels lw_privs ++ tables_1
theorem lw_privs_ok : ∀ q ∈ lw_privs, lw_okq q := lw_r1
/-- the streams that the claim lets the run draw from -/
abbrev lw_cs : List Choice := [Jvm.Choice.named "NaN.bits"]
theorem lw_bits : nanBits ∈ lw_cs := by first | decide | exact List.mem_cons_self | simp [lw_cs, nanBits]
/-! ===== BEGIN words of one list among another's, by their places ===== -/
theorem goodIn_r {big : List Cond} (ws : List Cond) (ps : List Nat) (hp : ws = ps.filterMap (fun i => big[i]?)) (h : ws.all goodWord = true) : GoodIn big ws := by
  intro w hw
  have h1 := List.all_eq_true.mp h w hw
  rw [hp] at hw
  obtain ⟨i, -, hi⟩ := List.mem_filterMap.mp hw
  have hm : w ∈ big := by first | exact List.mem_of_getElem? hi | exact List.getElem?_mem hi
  exact ⟨hm, good_of_word h1⟩
theorem goodIn_app {big a b : List Cond} (ha : GoodIn big a) (hb : GoodIn big b) : GoodIn big (a ++ b) := fun w h => (List.mem_append.mp h).elim (ha w) (hb w)
theorem goodIn_ca {big a b : List Cond} {c : Cond} (ha : GoodIn big (c :: a)) (hb : GoodIn big b) : GoodIn big (c :: (a ++ b)) := fun w h => (List.mem_cons.mp h).elim (fun e => ha w (List.mem_cons.mpr (Or.inl e))) (fun h => (List.mem_append.mp h).elim (fun h => ha w (List.mem_cons.mpr (Or.inr h))) (hb w))
theorem goodIn_sub {big ws : List Cond} (hm : ∀ w ∈ ws, w ∈ big) (h : ws.all goodWord = true) : GoodIn big ws := fun w hw => ⟨hm w hw, good_of_word (List.all_eq_true.mp h w hw)⟩
/-! ===== END ===== -/

/-! ===== BEGIN printed: names, fields, word lists, decode rows ===== -/
def RX0 : String := "DrawerCabinet$DrawerText"
def TX0 : u_T := fun k => match k with
  | 0 => ("DrawerCabinet$DrawerText", "signs", "[C", true)
  | 1 => ("DrawerCabinet$DrawerText", "length", "I", false)
  | 2 => ("DrawerCabinet$DrawerText", "at", "I", false)
  | 3 => ("DrawerCabinet$DrawerText", "found", "I", false)
  | 4 => ("DrawerCabinet$DrawerText", "outer", "[I", true)
  | 5 => ("DrawerCabinet$DrawerText", "hold", "[I", true)
  | 6 => ("DrawerCabinet$DrawerText", "by", "[I", true)
  | _ => ("DrawerCabinet$DrawerText", "bottoms", "[I", true)
def tyX0 : Nat → FieldType := fun k => match k with
  | 0 => .array .char
  | 1 => .int
  | 2 => .int
  | 3 => .int
  | 4 => .array .int
  | 5 => .array .int
  | 6 => .array .int
  | _ => .array .int
abbrev wsX00 : List Cond := u_ws RX0 TX0 8
theorem nmX0 : ∀ a, a < 8 → ∀ b, b < 8 → a ≠ b → (TX0 a).2.1 ≠ (TX0 b).2.1 := by decide +kernel
theorem tyX0_ok : ∀ k, k < 8 → parseFieldDescriptor (TX0 k).2.2.1 = some (tyX0 k) := by decide +kernel
abbrev cX0_init : ByteArray := prog_2_method_1_code
def yX0_init : MethodName := ⟨RX0, "<init>", "()V"⟩
def RX1 : String := "DrawerCabinet$Plan"
def TX1 : u_T := fun k => match k with
  | 0 => ("DrawerCabinet$Plan", "openings", "I", false)
  | 1 => ("DrawerCabinet$Plan", "takings", "I", false)
  | _ => ("DrawerCabinet$Plan", "liftedTo", "[I", true)
def tyX1 : Nat → FieldType := fun k => match k with
  | 0 => .int
  | 1 => .int
  | _ => .array .int
abbrev wsX10 : List Cond := u_ws RX1 TX1 3
theorem nmX1 : ∀ a, a < 3 → ∀ b, b < 3 → a ≠ b → (TX1 a).2.1 ≠ (TX1 b).2.1 := by decide +kernel
theorem tyX1_ok : ∀ k, k < 3 → parseFieldDescriptor (TX1 k).2.2.1 = some (tyX1 k) := by decide +kernel
abbrev cX1_init : ByteArray := prog_3_method_1_code
def yX1_init : MethodName := ⟨RX1, "<init>", "()V"⟩
abbrev cX1_make : ByteArray := prog_3_method_2_code
def yX1_make : MethodName := ⟨RX1, "make", "(LDrawerCabinet$State;I)V"⟩
abbrev cX1_countSteps : ByteArray := prog_3_method_3_code
def yX1_countSteps : MethodName := ⟨RX1, "countSteps", "(LDrawerCabinet$State;)I"⟩
abbrev cX1_countLiftings : ByteArray := prog_3_method_4_code
def yX1_countLiftings : MethodName := ⟨RX1, "countLiftings", "(LDrawerCabinet$State;)I"⟩
abbrev cX1_firstStep : ByteArray := prog_3_method_5_code
def yX1_firstStep : MethodName := ⟨RX1, "firstStep", "(LDrawerCabinet$State;)I"⟩
abbrev cX1_isLiftingIn : ByteArray := prog_3_method_6_code
def yX1_isLiftingIn : MethodName := ⟨RX1, "isLiftingIn", "(LDrawerCabinet$State;I)Z"⟩
abbrev cX1_addNeedsOfAll : ByteArray := prog_3_method_7_code
def yX1_addNeedsOfAll : MethodName := ⟨RX1, "addNeedsOfAll", "(LDrawerCabinet$State;)V"⟩
abbrev cX1_addWayInto : ByteArray := prog_3_method_8_code
def yX1_addWayInto : MethodName := ⟨RX1, "addWayInto", "(LDrawerCabinet$State;I)V"⟩
abbrev cX1_addNeedsOfOpening : ByteArray := prog_3_method_9_code
def yX1_addNeedsOfOpening : MethodName := ⟨RX1, "addNeedsOfOpening", "(LDrawerCabinet$State;I)V"⟩
abbrev cX1_addNeedsOfTaking : ByteArray := prog_3_method_10_code
def yX1_addNeedsOfTaking : MethodName := ⟨RX1, "addNeedsOfTaking", "(LDrawerCabinet$State;I)V"⟩
abbrev cX1_addOpening : ByteArray := prog_3_method_11_code
def yX1_addOpening : MethodName := ⟨RX1, "addOpening", "(LDrawerCabinet$State;I)V"⟩
abbrev cX1_addTaking : ByteArray := prog_3_method_12_code
def yX1_addTaking : MethodName := ⟨RX1, "addTaking", "(LDrawerCabinet$State;I)V"⟩
def RX2 : String := "DrawerCabinet$State"
def TX2 : u_T := fun k => match k with
  | 0 => ("DrawerCabinet$State", "drawers", "I", false)
  | 1 => ("DrawerCabinet$State", "game", "Z", false)
  | 2 => ("DrawerCabinet$State", "steps", "I", false)
  | 3 => ("DrawerCabinet$State", "quarters", "I", false)
  | 4 => ("DrawerCabinet$State", "opened", "I", false)
  | 5 => ("DrawerCabinet$State", "broken", "I", false)
  | 6 => ("DrawerCabinet$State", "inHand", "I", false)
  | 7 => ("DrawerCabinet$State", "outer", "[I", true)
  | 8 => ("DrawerCabinet$State", "hold", "[I", true)
  | 9 => ("DrawerCabinet$State", "by", "[I", true)
  | 10 => ("DrawerCabinet$State", "stiffness", "[I", true)
  | 11 => ("DrawerCabinet$State", "bottoms", "[I", true)
  | 12 => ("DrawerCabinet$State", "lifted", "[I", true)
  | 13 => ("DrawerCabinet$State", "place", "[I", true)
  | _ => ("DrawerCabinet$State", "depth", "[I", true)
def tyX2 : Nat → FieldType := fun k => match k with
  | 0 => .int
  | 1 => .boolean
  | 2 => .int
  | 3 => .int
  | 4 => .int
  | 5 => .int
  | 6 => .int
  | 7 => .array .int
  | 8 => .array .int
  | 9 => .array .int
  | 10 => .array .int
  | 11 => .array .int
  | 12 => .array .int
  | 13 => .array .int
  | _ => .array .int
abbrev wsX20 : List Cond := u_ws RX2 TX2 15
theorem nmX2 : ∀ a, a < 15 → ∀ b, b < 15 → a ≠ b → (TX2 a).2.1 ≠ (TX2 b).2.1 := by decide +kernel
theorem tyX2_ok : ∀ k, k < 15 → parseFieldDescriptor (TX2 k).2.2.1 = some (tyX2 k) := by decide +kernel
abbrev cX2_init : ByteArray := prog_4_method_1_code
def yX2_init : MethodName := ⟨RX2, "<init>", "()V"⟩
abbrev cX2_copyFrom : ByteArray := prog_4_method_2_code
def yX2_copyFrom : MethodName := ⟨RX2, "copyFrom", "(LDrawerCabinet$State;)V"⟩
abbrev cX2_addDrawer : ByteArray := prog_4_method_3_code
def yX2_addDrawer : MethodName := ⟨RX2, "addDrawer", "(IIIII)V"⟩
abbrev cX2_changeBottoms : ByteArray := prog_4_method_4_code
def yX2_changeBottoms : MethodName := ⟨RX2, "changeBottoms", "(II)V"⟩
abbrev cX2_putBack : ByteArray := prog_4_method_5_code
def yX2_putBack : MethodName := ⟨RX2, "putBack", "()V"⟩
abbrev cX2_isThere : ByteArray := prog_4_method_6_code
def yX2_isThere : MethodName := ⟨RX2, "isThere", "(I)Z"⟩
abbrev cX2_isOpen : ByteArray := prog_4_method_7_code
def yX2_isOpen : MethodName := ⟨RX2, "isOpen", "(I)Z"⟩
abbrev cX2_isInHand : ByteArray := prog_4_method_8_code
def yX2_isInHand : MethodName := ⟨RX2, "isInHand", "(I)Z"⟩
abbrev cX2_isReached : ByteArray := prog_4_method_9_code
def yX2_isReached : MethodName := ⟨RX2, "isReached", "(I)Z"⟩
abbrev cX2_canOpen : ByteArray := prog_4_method_10_code
def yX2_canOpen : MethodName := ⟨RX2, "canOpen", "(I)Z"⟩
abbrev cX2_isLetByHold : ByteArray := prog_4_method_11_code
def yX2_isLetByHold : MethodName := ⟨RX2, "isLetByHold", "(I)Z"⟩
abbrev cX2_hasBottomLeft : ByteArray := prog_4_method_12_code
def yX2_hasBottomLeft : MethodName := ⟨RX2, "hasBottomLeft", "(I)Z"⟩
abbrev cX2_canLift : ByteArray := prog_4_method_13_code
def yX2_canLift : MethodName := ⟨RX2, "canLift", "(I)Z"⟩
abbrev cX2_canTake : ByteArray := prog_4_method_14_code
def yX2_canTake : MethodName := ⟨RX2, "canTake", "(I)Z"⟩
abbrev cX2_canSeal : ByteArray := prog_4_method_15_code
def yX2_canSeal : MethodName := ⟨RX2, "canSeal", "(I)Z"⟩
abbrev cX2_setOpen : ByteArray := prog_4_method_16_code
def yX2_setOpen : MethodName := ⟨RX2, "setOpen", "(I)V"⟩
abbrev cX2_addStep : ByteArray := prog_4_method_17_code
def yX2_addStep : MethodName := ⟨RX2, "addStep", "(I)V"⟩
abbrev cX2_makeAllSteps : ByteArray := prog_4_method_18_code
def yX2_makeAllSteps : MethodName := ⟨RX2, "makeAllSteps", "()V"⟩
abbrev cX2_makeSteps : ByteArray := prog_4_method_19_code
def yX2_makeSteps : MethodName := ⟨RX2, "makeSteps", "()Z"⟩
abbrev cX2_hasAllHolders : ByteArray := prog_4_method_20_code
def yX2_hasAllHolders : MethodName := ⟨RX2, "hasAllHolders", "()Z"⟩
abbrev cX2_openableNow : ByteArray := prog_4_method_21_code
def yX2_openableNow : MethodName := ⟨RX2, "openableNow", "()I"⟩
abbrev cX2_countWholeSeals : ByteArray := prog_4_method_22_code
def yX2_countWholeSeals : MethodName := ⟨RX2, "countWholeSeals", "(I)I"⟩
abbrev cX2_countThingsInDrawers : ByteArray := prog_4_method_23_code
def yX2_countThingsInDrawers : MethodName := ⟨RX2, "countThingsInDrawers", "()I"⟩
abbrev cX2_countThingsIn : ByteArray := prog_4_method_24_code
def yX2_countThingsIn : MethodName := ⟨RX2, "countThingsIn", "(I)I"⟩
abbrev cX2_countOuters : ByteArray := prog_4_method_25_code
def yX2_countOuters : MethodName := ⟨RX2, "countOuters", "(I)I"⟩
def RX3 : String := "DrawerCabinet"
def TX3 : u_T := fun k => match k with
  | 0 => ("DrawerCabinet", "now", "LDrawerCabinet$State;", true)
  | 1 => ("DrawerCabinet", "snapshot", "LDrawerCabinet$State;", true)
  | 2 => ("DrawerCabinet", "trial", "LDrawerCabinet$State;", true)
  | 3 => ("DrawerCabinet", "history", "[LDrawerCabinet$State;", true)
  | 4 => ("DrawerCabinet", "plan", "LDrawerCabinet$Plan;", true)
  | 5 => ("DrawerCabinet", "text", "LDrawerCabinet$DrawerText;", true)
  | 6 => ("DrawerCabinet", "past", "I", false)
  | _ => ("DrawerCabinet", "kept", "Z", false)
def tyX3 : Nat → FieldType := fun k => match k with
  | 0 => .object "DrawerCabinet$State"
  | 1 => .object "DrawerCabinet$State"
  | 2 => .object "DrawerCabinet$State"
  | 3 => .array (.object "DrawerCabinet$State")
  | 4 => .object "DrawerCabinet$Plan"
  | 5 => .object "DrawerCabinet$DrawerText"
  | 6 => .int
  | _ => .boolean
abbrev wsX30 : List Cond := u_ws RX3 TX3 8
theorem nmX3 : ∀ a, a < 8 → ∀ b, b < 8 → a ≠ b → (TX3 a).2.1 ≠ (TX3 b).2.1 := by decide +kernel
theorem tyX3_ok : ∀ k, k < 8 → parseFieldDescriptor (TX3 k).2.2.1 = some (tyX3 k) := by decide +kernel
abbrev cX3_init : ByteArray := prog_1_method_1_code
def yX3_init : MethodName := ⟨RX3, "<init>", "()V"⟩
abbrev cX3_build : ByteArray := prog_1_method_2_code
def yX3_build : MethodName := ⟨RX3, "build", "(IIII)I"⟩
abbrev cX3_setBottoms : ByteArray := prog_1_method_4_code
def yX3_setBottoms : MethodName := ⟨RX3, "setBottoms", "(II)I"⟩
abbrev cX3_lay : ByteArray := prog_1_method_5_code
def yX3_lay : MethodName := ⟨RX3, "lay", "(III)I"⟩
abbrev cX3_begin : ByteArray := prog_1_method_6_code
def yX3_begin : MethodName := ⟨RX3, "begin", "()I"⟩
abbrev cX3_giveUp : ByteArray := prog_1_method_7_code
def yX3_giveUp : MethodName := ⟨RX3, "giveUp", "()I"⟩
abbrev cX3_open : ByteArray := prog_1_method_8_code
def yX3_open : MethodName := ⟨RX3, "open", "(I)I"⟩
abbrev cX3_close : ByteArray := prog_1_method_9_code
def yX3_close : MethodName := ⟨RX3, "close", "(I)I"⟩
abbrev cX3_lift : ByteArray := prog_1_method_10_code
def yX3_lift : MethodName := ⟨RX3, "lift", "(I)I"⟩
abbrev cX3_take : ByteArray := prog_1_method_11_code
def yX3_take : MethodName := ⟨RX3, "take", "(I)I"⟩
abbrev cX3_seal : ByteArray := prog_1_method_12_code
def yX3_seal : MethodName := ⟨RX3, "seal", "(I)I"⟩
abbrev cX3_undo : ByteArray := prog_1_method_15_code
def yX3_undo : MethodName := ⟨RX3, "undo", "()I"⟩
abbrev cX3_drawer : ByteArray := prog_1_method_18_code
def yX3_drawer : MethodName := ⟨RX3, "drawer", "(II)I"⟩
abbrev cX3_thing : ByteArray := prog_1_method_19_code
def yX3_thing : MethodName := ⟨RX3, "thing", "(II)I"⟩
abbrev cX3_needs : ByteArray := prog_1_method_20_code
def yX3_needs : MethodName := ⟨RX3, "needs", "(II)I"⟩
abbrev cX3_hint : ByteArray := prog_1_method_21_code
def yX3_hint : MethodName := ⟨RX3, "hint", "(I)I"⟩
abbrev cX3_minutes : ByteArray := prog_1_method_22_code
def yX3_minutes : MethodName := ⟨RX3, "minutes", "()D"⟩
abbrev cX3_minutesBits : ByteArray := prog_1_method_23_code
def yX3_minutesBits : MethodName := ⟨RX3, "minutesBits", "()I"⟩
abbrev cX3_count : ByteArray := prog_1_method_24_code
def yX3_count : MethodName := ⟨RX3, "count", "(I)I"⟩
abbrev cX3_isHold : ByteArray := prog_1_method_25_code
def yX3_isHold : MethodName := ⟨RX3, "isHold", "(II)Z"⟩
abbrev cX3_isThing : ByteArray := prog_1_method_26_code
def yX3_isThing : MethodName := ⟨RX3, "isThing", "(I)Z"⟩
abbrev cX3_oneIf : ByteArray := prog_1_method_27_code
def yX3_oneIf : MethodName := ⟨RX3, "oneIf", "(Z)I"⟩
abbrev cX3_bit : ByteArray := prog_1_method_28_code
def yX3_bit : MethodName := ⟨RX3, "bit", "(I)I"⟩
abbrev cX3_isIn : ByteArray := prog_1_method_29_code
def yX3_isIn : MethodName := ⟨RX3, "isIn", "(II)Z"⟩
abbrev cX3_bitsOf : ByteArray := prog_1_method_30_code
def yX3_bitsOf : MethodName := ⟨RX3, "bitsOf", "(F)I"⟩
abbrev cX3_recordState : ByteArray := prog_1_method_31_code
def yX3_recordState : MethodName := ⟨RX3, "recordState", "()V"⟩
abbrev cX3_dropOldest : ByteArray := prog_1_method_32_code
def yX3_dropOldest : MethodName := ⟨RX3, "dropOldest", "()V"⟩
abbrev cX3_copyState : ByteArray := prog_1_method_33_code
def yX3_copyState : MethodName := ⟨RX3, "copyState", "(LDrawerCabinet$State;LDrawerCabinet$State;)V"⟩
abbrev cX3_canComeTo : ByteArray := prog_1_method_34_code
def yX3_canComeTo : MethodName := ⟨RX3, "canComeTo", "(I)Z"⟩
abbrev cX3_neverOpened : ByteArray := prog_1_method_35_code
def yX3_neverOpened : MethodName := ⟨RX3, "neverOpened", "()I"⟩
def RX4 : String := "DrawerCabinetModel"
def TX4 : u_T := fun k => match k with
  | _ => ("", "", "", false)
def tyX4 : Nat → FieldType := fun k => match k with
  | _ => .int
abbrev wsX40 : List Cond := u_ws RX4 TX4 0
theorem nmX4 : ∀ a, a < 0 → ∀ b, b < 0 → a ≠ b → (TX4 a).2.1 ≠ (TX4 b).2.1 := by decide +kernel
theorem tyX4_ok : ∀ k, k < 0 → parseFieldDescriptor (TX4 k).2.2.1 = some (tyX4 k) := by decide +kernel
def RJ6 : String := "java/lang/Integer"
def TJ6 : u_T := fun k => match k with
  | _ => ("", "", "", false)
def tyJ6 : Nat → FieldType := fun k => match k with
  | _ => .int
abbrev wsJ60 : List Cond := u_ws RJ6 TJ6 0
theorem nmJ6 : ∀ a, a < 0 → ∀ b, b < 0 → a ≠ b → (TJ6 a).2.1 ≠ (TJ6 b).2.1 := by decide +kernel
theorem tyJ6_ok : ∀ k, k < 0 → parseFieldDescriptor (TJ6 k).2.2.1 = some (tyJ6 k) := by decide +kernel
abbrev cJ6_bitCount_0f7a4 : ByteArray := prog_7_method_49_code
def yJ6_bitCount_0f7a4 : MethodName := ⟨RJ6, "bitCount", "(I)I"⟩
def RJ9 : String := "java/lang/Math"
def TJ9 : u_T := fun k => match k with
  | _ => ("", "", "", false)
def tyJ9 : Nat → FieldType := fun k => match k with
  | _ => .int
abbrev wsJ90 : List Cond := u_ws RJ9 TJ9 0
theorem nmJ9 : ∀ a, a < 0 → ∀ b, b < 0 → a ≠ b → (TJ9 a).2.1 ≠ (TJ9 b).2.1 := by decide +kernel
theorem tyJ9_ok : ∀ k, k < 0 → parseFieldDescriptor (TJ9 k).2.2.1 = some (tyJ9 k) := by decide +kernel
abbrev cJ9_max_7cf53 : ByteArray := prog_8_method_65_code
def yJ9_max_7cf53 : MethodName := ⟨RJ9, "max", "(II)I"⟩
def RJ10 : String := "java/lang/System"
def TJ10 : u_T := fun k => match k with
  | _ => ("", "", "", false)
def tyJ10 : Nat → FieldType := fun k => match k with
  | _ => .int
abbrev wsJ100 : List Cond := u_ws RJ10 TJ10 0
theorem nmJ10 : ∀ a, a < 0 → ∀ b, b < 0 → a ≠ b → (TJ10 a).2.1 ≠ (TJ10 b).2.1 := by decide +kernel
theorem tyJ10_ok : ∀ k, k < 0 → parseFieldDescriptor (TJ10 k).2.2.1 = some (tyJ10 k) := by decide +kernel
def RL : String := "DrawerCabinetLaw"
abbrev cL_cell : ByteArray := method_2_code
def yL_cell : MethodName := ⟨RL, "cell", "([II)I"⟩
abbrev cL_bits : ByteArray := method_3_code
def yL_bits : MethodName := ⟨RL, "bits", "(I)I"⟩
abbrev cL_isNeeded : ByteArray := method_4_code
def yL_isNeeded : MethodName := ⟨RL, "isNeeded", "(LDrawerCabinet;I)Z"⟩
abbrev cL_goes : ByteArray := method_5_code
def yL_goes : MethodName := ⟨RL, "goes", "(LDrawerCabinet;I)Z"⟩
abbrev cL_builds : ByteArray := method_6_code
def yL_builds : MethodName := ⟨RL, "builds", "(LDrawerCabinet;[I)Z"⟩
abbrev cL_isAll : ByteArray := method_7_code
def yL_isAll : MethodName := ⟨RL, "isAll", "(LDrawerCabinet;)Z"⟩
abbrev cL_acts : ByteArray := method_8_code
def yL_acts : MethodName := ⟨RL, "acts", "(LDrawerCabinet;I)Z"⟩
abbrev cL_law : ByteArray := code
def yL_law : MethodName := ⟨RL, "law", "([I)Z"⟩
abbrev vwCl : List vw_C := [(RX0, TX0, 8), (RX1, TX1, 3), (RX2, TX2, 15), (RX3, TX3, 8)]
/-! my tables: classes, methods, links -/
def CN : Nat → String := fun k => match k with
  | 0 => RX0
  | 1 => RX1
  | 2 => RX2
  | 3 => RX3
  | 4 => RJ6
  | 5 => RJ9
  | 6 => RJ10
  | _ => RL
def MT_0 : List (Nat × MethodName × ByteArray × Nat × Option FieldType × Nat) := [(0, yX0_init, cX0_init, 1, none, 0),
  (1, yX1_init, cX1_init, 1, none, 0),
  (1, yX1_make, cX1_make, 5, none, 2),
  (1, yX1_countSteps, cX1_countSteps, 2, (some .int), 1),
  (1, yX1_countLiftings, cX1_countLiftings, 4, (some .int), 1),
  (1, yX1_firstStep, cX1_firstStep, 4, (some .int), 1),
  (1, yX1_isLiftingIn, cX1_isLiftingIn, 3, (some .boolean), 2),
  (1, yX1_addNeedsOfAll, cX1_addNeedsOfAll, 3, none, 1),
  (1, yX1_addWayInto, cX1_addWayInto, 5, none, 2),
  (1, yX1_addNeedsOfOpening, cX1_addNeedsOfOpening, 3, none, 2),
  (1, yX1_addNeedsOfTaking, cX1_addNeedsOfTaking, 4, none, 2),
  (1, yX1_addOpening, cX1_addOpening, 3, none, 2),
  (1, yX1_addTaking, cX1_addTaking, 3, none, 2)]
def MT_1 : List (Nat × MethodName × ByteArray × Nat × Option FieldType × Nat) := [(2, yX2_init, cX2_init, 2, none, 0),
  (2, yX2_copyFrom, cX2_copyFrom, 2, none, 1),
  (2, yX2_addDrawer, cX2_addDrawer, 6, none, 5),
  (2, yX2_changeBottoms, cX2_changeBottoms, 4, none, 2),
  (2, yX2_putBack, cX2_putBack, 2, none, 0),
  (2, yX2_isThere, cX2_isThere, 2, (some .boolean), 1),
  (2, yX2_isOpen, cX2_isOpen, 2, (some .boolean), 1),
  (2, yX2_isInHand, cX2_isInHand, 2, (some .boolean), 1),
  (2, yX2_isReached, cX2_isReached, 4, (some .boolean), 1),
  (2, yX2_canOpen, cX2_canOpen, 2, (some .boolean), 1),
  (2, yX2_isLetByHold, cX2_isLetByHold, 2, (some .boolean), 1),
  (2, yX2_hasBottomLeft, cX2_hasBottomLeft, 2, (some .boolean), 1),
  (2, yX2_canLift, cX2_canLift, 2, (some .boolean), 1)]
def MT_2 : List (Nat × MethodName × ByteArray × Nat × Option FieldType × Nat) := [(2, yX2_canTake, cX2_canTake, 3, (some .boolean), 1),
  (2, yX2_canSeal, cX2_canSeal, 2, (some .boolean), 1),
  (2, yX2_setOpen, cX2_setOpen, 2, none, 1),
  (2, yX2_addStep, cX2_addStep, 2, none, 1),
  (2, yX2_makeAllSteps, cX2_makeAllSteps, 3, none, 0),
  (2, yX2_makeSteps, cX2_makeSteps, 3, (some .boolean), 0),
  (2, yX2_hasAllHolders, cX2_hasAllHolders, 2, (some .boolean), 0),
  (2, yX2_openableNow, cX2_openableNow, 3, (some .int), 0),
  (2, yX2_countWholeSeals, cX2_countWholeSeals, 4, (some .int), 1),
  (2, yX2_countThingsInDrawers, cX2_countThingsInDrawers, 3, (some .int), 0),
  (2, yX2_countThingsIn, cX2_countThingsIn, 4, (some .int), 1),
  (2, yX2_countOuters, cX2_countOuters, 4, (some .int), 1),
  (3, yX3_init, cX3_init, 2, none, 0)]
def MT_3 : List (Nat × MethodName × ByteArray × Nat × Option FieldType × Nat) := [(3, yX3_build, cX3_build, 5, (some .int), 4),
  (3, yX3_setBottoms, cX3_setBottoms, 4, (some .int), 2),
  (3, yX3_lay, cX3_lay, 5, (some .int), 3),
  (3, yX3_begin, cX3_begin, 1, (some .int), 0),
  (3, yX3_giveUp, cX3_giveUp, 2, (some .int), 0),
  (3, yX3_open, cX3_open, 2, (some .int), 1),
  (3, yX3_close, cX3_close, 2, (some .int), 1),
  (3, yX3_lift, cX3_lift, 2, (some .int), 1),
  (3, yX3_take, cX3_take, 2, (some .int), 1),
  (3, yX3_seal, cX3_seal, 2, (some .int), 1),
  (3, yX3_undo, cX3_undo, 1, (some .int), 0),
  (3, yX3_drawer, cX3_drawer, 3, (some .int), 2),
  (3, yX3_thing, cX3_thing, 4, (some .int), 2)]
def MT_4 : List (Nat × MethodName × ByteArray × Nat × Option FieldType × Nat) := [(3, yX3_needs, cX3_needs, 3, (some .int), 2),
  (3, yX3_hint, cX3_hint, 2, (some .int), 1),
  (3, yX3_minutes, cX3_minutes, 1, (some .double), 0),
  (3, yX3_minutesBits, cX3_minutesBits, 1, (some .int), 0),
  (3, yX3_count, cX3_count, 2, (some .int), 1),
  (3, yX3_isHold, cX3_isHold, 2, (some .boolean), 2),
  (3, yX3_isThing, cX3_isThing, 1, (some .boolean), 1),
  (3, yX3_oneIf, cX3_oneIf, 1, (some .int), 1),
  (3, yX3_bit, cX3_bit, 1, (some .int), 1),
  (3, yX3_isIn, cX3_isIn, 2, (some .boolean), 2),
  (3, yX3_bitsOf, cX3_bitsOf, 4, (some .int), 1),
  (3, yX3_recordState, cX3_recordState, 1, none, 0),
  (3, yX3_dropOldest, cX3_dropOldest, 3, none, 0)]
def MT_5 : List (Nat × MethodName × ByteArray × Nat × Option FieldType × Nat) := [(3, yX3_copyState, cX3_copyState, 2, none, 2),
  (3, yX3_canComeTo, cX3_canComeTo, 2, (some .boolean), 1),
  (3, yX3_neverOpened, cX3_neverOpened, 1, (some .int), 0),
  (4, yJ6_bitCount_0f7a4, cJ6_bitCount_0f7a4, 1, (some .int), 1),
  (5, yJ9_max_7cf53, cJ9_max_7cf53, 2, (some .int), 2),
  (7, yL_cell, cL_cell, 2, (some .int), 2),
  (7, yL_bits, cL_bits, 3, (some .int), 1),
  (7, yL_isNeeded, cL_isNeeded, 9, (some .boolean), 2),
  (7, yL_goes, cL_goes, 9, (some .boolean), 2),
  (7, yL_builds, cL_builds, 8, (some .boolean), 2),
  (7, yL_isAll, cL_isAll, 8, (some .boolean), 1),
  (7, yL_acts, cL_acts, 9, (some .boolean), 2),
  (7, yL_law, cL_law, 6, (some .boolean), 1)]
def MT : List (Nat × MethodName × ByteArray × Nat × Option FieldType × Nat) := MT_0 ++ (MT_1 ++ (MT_2 ++ (MT_3 ++ (MT_4 ++ (MT_5)))))
/-- the number of methods, the law the last one -/
abbrev NM : Nat := 78
abbrev yLAW : Nat := 77
def mrow (y : Nat) : Nat × MethodName × ByteArray × Nat × Option FieldType × Nat := MT.getD y (0, yL_law, cL_law, 0, none, 0)
def mown (y : Nat) : Nat := (mrow y).1
def mnm (y : Nat) : MethodName := (mrow y).2.1
def mcd (y : Nat) : ByteArray := (mrow y).2.2.1
def mml (y : Nat) : Nat := (mrow y).2.2.2.1
def mrt (y : Nat) : Option FieldType := (mrow y).2.2.2.2.1
def mna (y : Nat) : Nat := (mrow y).2.2.2.2.2
/-! the numbers of the methods -/
abbrev nX0_init : Nat := 0
abbrev nX1_init : Nat := 1
abbrev nX1_make : Nat := 2
abbrev nX1_countSteps : Nat := 3
abbrev nX1_countLiftings : Nat := 4
abbrev nX1_firstStep : Nat := 5
abbrev nX1_isLiftingIn : Nat := 6
abbrev nX1_addNeedsOfAll : Nat := 7
abbrev nX1_addWayInto : Nat := 8
abbrev nX1_addNeedsOfOpening : Nat := 9
abbrev nX1_addNeedsOfTaking : Nat := 10
abbrev nX1_addOpening : Nat := 11
abbrev nX1_addTaking : Nat := 12
abbrev nX2_init : Nat := 13
abbrev nX2_copyFrom : Nat := 14
abbrev nX2_addDrawer : Nat := 15
abbrev nX2_changeBottoms : Nat := 16
abbrev nX2_putBack : Nat := 17
abbrev nX2_isThere : Nat := 18
abbrev nX2_isOpen : Nat := 19
abbrev nX2_isInHand : Nat := 20
abbrev nX2_isReached : Nat := 21
abbrev nX2_canOpen : Nat := 22
abbrev nX2_isLetByHold : Nat := 23
abbrev nX2_hasBottomLeft : Nat := 24
abbrev nX2_canLift : Nat := 25
abbrev nX2_canTake : Nat := 26
abbrev nX2_canSeal : Nat := 27
abbrev nX2_setOpen : Nat := 28
abbrev nX2_addStep : Nat := 29
abbrev nX2_makeAllSteps : Nat := 30
abbrev nX2_makeSteps : Nat := 31
abbrev nX2_hasAllHolders : Nat := 32
abbrev nX2_openableNow : Nat := 33
abbrev nX2_countWholeSeals : Nat := 34
abbrev nX2_countThingsInDrawers : Nat := 35
abbrev nX2_countThingsIn : Nat := 36
abbrev nX2_countOuters : Nat := 37
abbrev nX3_init : Nat := 38
abbrev nX3_build : Nat := 39
abbrev nX3_setBottoms : Nat := 40
abbrev nX3_lay : Nat := 41
abbrev nX3_begin : Nat := 42
abbrev nX3_giveUp : Nat := 43
abbrev nX3_open : Nat := 44
abbrev nX3_close : Nat := 45
abbrev nX3_lift : Nat := 46
abbrev nX3_take : Nat := 47
abbrev nX3_seal : Nat := 48
abbrev nX3_undo : Nat := 49
abbrev nX3_drawer : Nat := 50
abbrev nX3_thing : Nat := 51
abbrev nX3_needs : Nat := 52
abbrev nX3_hint : Nat := 53
abbrev nX3_minutes : Nat := 54
abbrev nX3_minutesBits : Nat := 55
abbrev nX3_count : Nat := 56
abbrev nX3_isHold : Nat := 57
abbrev nX3_isThing : Nat := 58
abbrev nX3_oneIf : Nat := 59
abbrev nX3_bit : Nat := 60
abbrev nX3_isIn : Nat := 61
abbrev nX3_bitsOf : Nat := 62
abbrev nX3_recordState : Nat := 63
abbrev nX3_dropOldest : Nat := 64
abbrev nX3_copyState : Nat := 65
abbrev nX3_canComeTo : Nat := 66
abbrev nX3_neverOpened : Nat := 67
abbrev nJ6_bitCount_0f7a4 : Nat := 68
abbrev nJ9_max_7cf53 : Nat := 69
abbrev nL_cell : Nat := 70
abbrev nL_bits : Nat := 71
abbrev nL_isNeeded : Nat := 72
abbrev nL_goes : Nat := 73
abbrev nL_builds : Nat := 74
abbrev nL_isAll : Nat := 75
abbrev nL_acts : Nat := 76
abbrev nL_law : Nat := 77
/-! calls: by class, a place of the constant pool, the kind of the call, the method -/
def LK_0 : List (Nat × Nat × Nat) := [(3, 5, 0)]
def LK_1 : List (Nat × Nat × Nat) := [(3, 5, 0), (22, 0, 8), (26, 0, 3), (30, 0, 7), (34, 1, 68), (40, 0, 4), (48, 8, 69), (54, 0, 33), (58, 3, 61), (62, 0, 26), (66, 0, 6), (70, 0, 25), (73, 0, 9), (76, 0, 12), (79, 0, 10), (82, 0, 18), (85, 0, 11), (103, 0, 19), (106, 3, 60), (109, 0, 20)]
def LK_2 : List (Nat × Nat × Nat) := [(3, 5, 0), (59, 6, 0), (65, 0, 18), (69, 0, 19), (72, 0, 21), (75, 0, 23), (78, 0, 20), (81, 0, 24), (84, 3, 61), (88, 3, 60), (92, 0, 31), (96, 0, 22), (99, 0, 28), (103, 0, 25), (106, 0, 26)]
def LK_3 : List (Nat × Nat × Nat) := [(3, 5, 0), (11, 2, 13), (28, 4, 1), (35, 4, 0), (48, 0, 18), (52, 1, 57), (62, 0, 63), (65, 0, 15), (93, 0, 16), (97, 1, 58), (106, 0, 35), (109, 0, 32), (113, 0, 17), (119, 0, 19), (122, 0, 22), (125, 0, 28), (132, 0, 29), (138, 1, 68), (144, 0, 21), (147, 1, 60), (150, 0, 24), (153, 0, 25), (159, 0, 20), (162, 0, 26), (171, 1, 61), (174, 0, 27), (184, 1, 65), (191, 1, 59), (195, 0, 36), (198, 0, 37), (201, 0, 66), (204, 0, 2), (208, 0, 3), (218, 0, 4), (221, 0, 34), (224, 0, 5), (234, 0, 54), (238, 1, 62), (242, 0, 67), (245, 0, 33), (249, 0, 64), (252, 0, 14), (256, 0, 30)]
def LK_4 : List (Nat × Nat × Nat) := []
def LK_5 : List (Nat × Nat × Nat) := []
def LK_6 : List (Nat × Nat × Nat) := []
def LK_7 : List (Nat × Nat × Nat) := [(9, 0, 52), (15, 0, 53), (19, 1, 71), (24, 0, 56), (27, 0, 50), (30, 0, 51), (33, 0, 54), (37, 0, 44), (42, 0, 47), (47, 0, 46), (52, 1, 70), (56, 0, 39), (60, 0, 40), (63, 0, 41), (67, 0, 45), (70, 0, 48), (73, 2, 38), (74, 0, 42), (78, 0, 49), (81, 1, 74), (85, 0, 55), (88, 1, 72), (92, 1, 73), (95, 1, 76), (98, 1, 75), (102, 0, 43)]
def LK (own : Nat) : List (Nat × Nat × Nat) := match own with
  | 0 => LK_0
  | 1 => LK_1
  | 2 => LK_2
  | 3 => LK_3
  | 4 => LK_4
  | 5 => LK_5
  | 6 => LK_6
  | _ => LK_7
def lnk (own ix : Nat) : Option (Nat × Nat) := ((LK own).find? (fun e => e.1 == ix)).map (·.2)
/-! fields: by class, a place of the constant pool, the class of the field, its place there -/
def FK_0 : List (Nat × Nat × Nat) := [(9, 0, 0), (15, 0, 4), (19, 0, 5), (22, 0, 6), (25, 0, 7)]
def FK_1 : List (Nat × Nat × Nat) := [(88, 2, 7), (91, 2, 8), (94, 2, 9), (43, 2, 12), (97, 2, 13), (100, 2, 14), (15, 1, 0), (19, 1, 1), (9, 1, 2)]
def FK_2 : List (Nat × Nat × Nat) := [(36, 2, 0), (40, 2, 1), (44, 2, 2), (47, 2, 3), (50, 2, 4), (53, 2, 5), (56, 2, 6), (9, 2, 7), (15, 2, 8), (18, 2, 9), (21, 2, 10), (24, 2, 11), (27, 2, 12), (30, 2, 13), (33, 2, 14)]
def FK_3 : List (Nat × Nat × Nat) := [(56, 2, 0), (59, 2, 1), (116, 2, 2), (227, 2, 3), (135, 2, 4), (168, 2, 5), (165, 2, 6), (188, 2, 7), (189, 2, 8), (190, 2, 9), (129, 2, 10), (92, 2, 11), (156, 2, 12), (100, 2, 13), (103, 2, 14), (212, 1, 0), (215, 1, 1), (181, 0, 1), (12, 3, 0), (16, 3, 1), (19, 3, 2), (22, 3, 3), (29, 3, 4), (36, 3, 5), (40, 3, 6), (44, 3, 7)]
def FK_4 : List (Nat × Nat × Nat) := []
def FK_5 : List (Nat × Nat × Nat) := []
def FK_6 : List (Nat × Nat × Nat) := []
def FK_7 : List (Nat × Nat × Nat) := []
def FK (own : Nat) : List (Nat × Nat × Nat) := match own with
  | 0 => FK_0
  | 1 => FK_1
  | 2 => FK_2
  | 3 => FK_3
  | 4 => FK_4
  | 5 => FK_5
  | 6 => FK_6
  | _ => FK_7
def fld (own ix : Nat) : Option (Nat × Nat) := ((FK own).find? (fun e => e.1 == ix)).map (·.2)
def CK_0 : List (Nat × Value) := []
def CK_1 : List (Nat × Value) := []
def CK_2 : List (Nat × Value) := []
def CK_3 : List (Nat × Value) := [(230, .double 4616189618054758400), (232, .double 13830554455654793216), (248, .float 1258291200)]
def CK_4 : List (Nat × Value) := [(265, .int 1431655765), (266, .int 858993459), (267, .int 252645135)]
def CK_5 : List (Nat × Value) := []
def CK_6 : List (Nat × Value) := []
def CK_7 : List (Nat × Value) := [(7, .int 15485959), (8, .int 2147483647), (40, .double 4616189618054758400), (45, .double 4598175219545276416), (50, .double 4612811918334230528), (105, .double 13830554455654793216)]
def CK (own : Nat) : List (Nat × Value) := match own with
  | 0 => CK_0
  | 1 => CK_1
  | 2 => CK_2
  | 3 => CK_3
  | 4 => CK_4
  | 5 => CK_5
  | 6 => CK_6
  | _ => CK_7
def cst (own ix : Nat) : Option Value := ((CK own).find? (fun e => e.1 == ix)).map (·.2)
def NK_0 : List (Nat × Nat) := []
def NK_1 : List (Nat × Nat) := []
def NK_2 : List (Nat × Nat) := []
def NK_3 : List (Nat × Nat) := [(9, 2), (26, 1), (33, 0)]
def NK_4 : List (Nat × Nat) := []
def NK_5 : List (Nat × Nat) := []
def NK_6 : List (Nat × Nat) := []
def NK_7 : List (Nat × Nat) := [(10, 3)]
def NK (own : Nat) : List (Nat × Nat) := match own with
  | 0 => NK_0
  | 1 => NK_1
  | 2 => NK_2
  | 3 => NK_3
  | 4 => NK_4
  | 5 => NK_5
  | 6 => NK_6
  | _ => NK_7
def nwc (own ix : Nat) : Option Nat := ((NK own).find? (fun e => e.1 == ix)).map (·.2)
/-! which words the tables hold, by their places -/
theorem mem_places {ws : List Cond} (ps : List Nat) (h : ps.map (fun i => lw_tbl[i]?) = ws.map some) : ∀ w ∈ ws, w ∈ lw_tbl := by
  intro w hw
  have h1 : some w ∈ ps.map (fun i => lw_tbl[i]?) := by rw [h]; exact List.mem_map.mpr ⟨w, hw, rfl⟩
  obtain ⟨i, -, hi⟩ := List.mem_map.mp h1
  exact List.mem_of_getElem? hi
def wCode (e : Nat × MethodName × ByteArray × Nat × Option FieldType × Nat) : Cond := .code e.2.1 e.2.2.1 e.2.2.2.1 e.2.2.2.2.1
set_option maxRecDepth 100000 in
theorem pC_0 : ∀ w ∈ MT_0.map wCode, w ∈ lw_tbl := mem_places [126, 108, 302, 317, 327, 409, 350, 334, 306, 341, 354, 311, 345] (by decide +kernel)
set_option maxRecDepth 100000 in
theorem pC_1 : ∀ w ∈ MT_1.map wCode, w ∈ lw_tbl := mem_places [33, 202, 209, 471, 233, 184, 265, 277, 269, 261, 273, 292, 288] (by decide +kernel)
set_option maxRecDepth 100000 in
theorem pC_2 : ∀ w ∈ MT_2.map wCode, w ∈ lw_tbl := mem_places [296, 489, 281, 447, 253, 257, 229, 393, 360, 220, 424, 428, 25] (by decide +kernel)
set_option maxRecDepth 100000 in
theorem pC_3 : ∀ w ∈ MT_3.map wCode, w ∈ lw_tbl := mem_places [180, 467, 213, 225, 237, 441, 481, 457, 452, 485, 241, 419, 432] (by decide +kernel)
set_option maxRecDepth 100000 in
theorem pC_4 : ∀ w ∈ MT_4.map wCode, w ∈ lw_tbl := mem_places [245, 405, 365, 371, 380, 187, 216, 383, 284, 337, 375, 191, 195] (by decide +kernel)
set_option maxRecDepth 100000 in
theorem pC_5 : ∀ w ∈ (MT_5.take 12).map wCode, w ∈ lw_tbl := mem_places [198, 249, 388, 320, 330, 396, 415, 401, 437, 463, 474, 477] (by rfl)
set_option maxRecDepth 100000 in
theorem pI : ∀ w ∈ [0, 1, 2, 3, 4, 5, 6, 7].map (fun c => Cond.initialized (CN c)), w ∈ lw_tbl := mem_places [17, 16, 15, 14, 19, 20, 18, 13] (by decide +kernel)
/-- the words of a call: by its kind (0 of an object, 1 static, 2 a constructor, 3 static of a nest mate, 4 a nest mate's constructor, 5 Object's, 6 arraycopy, 7 floatToRawIntBits, 8 Math.max) -/
def wLink (own : Nat) (e : Nat × Nat × Nat) : List Cond := match e.2.1 with
  | 0 => [.methodLink (CN own) e.1 (mnm e.2.2), .instanceMethod (mnm e.2.2), .selects (mnm e.2.2).cls (mnm e.2.2) (mnm e.2.2)]
  | 1 => [.methodLink (CN own) e.1 (mnm e.2.2), .static (mnm e.2.2)]
  | 2 => [.methodLink (CN own) e.1 (mnm e.2.2), .instanceMethod (mnm e.2.2)]
  | 3 => [.methodLinkNest (CN own) e.1 (mnm e.2.2) RX3, .static (mnm e.2.2)]
  | 4 => [.methodLinkNest (CN own) e.1 (mnm e.2.2) RX3, .instanceMethod (mnm e.2.2)]
  | 5 => [.methodLink (CN own) e.1 objectInit, .instanceMethod objectInit]
  | 6 => [.methodLink (CN own) e.1 arraycopyName, .native arraycopyName, .static arraycopyName]
  | 7 => [.methodLink (CN own) e.1 ⟨"java/lang/Float", "floatToRawIntBits", "(F)I"⟩, .native ⟨"java/lang/Float", "floatToRawIntBits", "(F)I"⟩, .static ⟨"java/lang/Float", "floatToRawIntBits", "(F)I"⟩]
  | _ => [.methodLink (CN own) e.1 (mnm e.2.2), .static (mnm e.2.2)]
set_option maxRecDepth 100000 in
theorem pL_0 : ∀ w ∈ LK_0.flatMap (wLink 0), w ∈ lw_tbl := mem_places [127, 27] (by decide +kernel)
set_option maxRecDepth 100000 in
theorem pL_1 : ∀ w ∈ LK_1.flatMap (wLink 1), w ∈ lw_tbl := mem_places [109, 27, 303, 305, 5, 314, 315, 316, 331, 333, 7, 318, 319, 324, 325, 326, 328, 329, 410, 391, 392, 335, 336, 411, 294, 295, 347, 349, 10, 412, 286, 287, 338, 340, 8, 342, 344, 9, 351, 353, 11, 307, 182, 183, 308, 310, 6, 312, 263, 264, 313, 283, 346, 275, 276] (by decide +kernel)
set_option maxRecDepth 100000 in
theorem pL_2 : ∀ w ∈ LK_2.flatMap (wLink 2), w ∈ lw_tbl := mem_places [34, 27, 203, 205, 204, 221, 182, 183, 262, 263, 264, 266, 267, 268, 270, 272, 4, 274, 275, 276, 289, 290, 291, 361, 336, 282, 283, 254, 256, 3, 258, 259, 260, 278, 279, 280, 285, 286, 287, 293, 294, 295] (by decide +kernel)
set_option maxRecDepth 100000 in
theorem pL_3 : ∀ w ∈ LK_3.flatMap (wLink 3), w ∈ lw_tbl := mem_places [26, 27, 31, 32, 106, 107, 124, 125, 181, 182, 183, 185, 186, 188, 190, 0, 206, 207, 208, 468, 469, 470, 214, 215, 217, 218, 219, 226, 227, 228, 230, 231, 232, 297, 263, 264, 442, 259, 260, 443, 279, 280, 444, 445, 446, 384, 319, 298, 267, 268, 389, 283, 458, 290, 291, 459, 286, 287, 433, 275, 276, 434, 294, 295, 420, 336, 486, 487, 488, 196, 197, 381, 382, 421, 422, 423, 425, 426, 427, 246, 248, 2, 299, 300, 301, 355, 315, 316, 356, 325, 326, 357, 358, 359, 406, 407, 408, 372, 363, 364, 373, 374, 385, 387, 12, 390, 391, 392, 192, 194, 1, 199, 200, 201, 250, 251, 252] (by decide +kernel)
set_option maxRecDepth 100000 in
theorem pL_7 : ∀ w ∈ LK_7.flatMap (wLink 7), w ∈ lw_tbl := mem_places [242, 243, 244, 402, 403, 404, 413, 414, 377, 378, 379, 416, 417, 418, 429, 430, 431, 362, 363, 364, 438, 439, 440, 449, 450, 451, 454, 455, 456, 394, 395, 177, 178, 179, 464, 465, 466, 210, 211, 212, 478, 479, 480, 482, 483, 484, 23, 24, 222, 223, 224, 238, 239, 240, 461, 462, 368, 369, 370, 399, 400, 435, 436, 475, 476, 472, 473, 234, 235, 236] (by decide +kernel)
def wFld (own : Nat) (e : Nat × Nat × Nat) : Cond := match vwCl[e.2.1]? with
  | some r => .fieldLink (CN own) e.1 r.1 (r.2.1 e.2.2).2.1 (r.2.1 e.2.2).2.2.1
  | none => .initialized ""
set_option maxRecDepth 100000 in
theorem pF_0 : ∀ w ∈ FK_0.map (wFld 0), w ∈ lw_tbl := mem_places [128, 130, 131, 132, 133] (by decide +kernel)
set_option maxRecDepth 100000 in
theorem pF_1 : ∀ w ∈ FK_1.map (wFld 1), w ∈ lw_tbl := mem_places [50, 53, 56, 63, 67, 70, 110, 112, 114] (by decide +kernel)
set_option maxRecDepth 100000 in
theorem pF_2 : ∀ w ∈ FK_2.map (wFld 2), w ∈ lw_tbl := mem_places [35, 37, 39, 41, 43, 45, 47, 49, 52, 55, 58, 60, 62, 65, 68] (by decide +kernel)
set_option maxRecDepth 100000 in
theorem pF_3 : ∀ w ∈ FK_3.map (wFld 3), w ∈ lw_tbl := mem_places [36, 38, 40, 42, 44, 46, 48, 51, 54, 57, 59, 61, 64, 66, 69, 111, 113, 129, 152, 153, 154, 155, 156, 157, 158, 159] (by decide +kernel)
def wCst (own : Nat) (e : Nat × Value) : Cond := match e.2 with
  | .int v => .constant (CN own) e.1 v
  | .double v => .constantDouble (CN own) e.1 v
  | .float v => .constantFloat (CN own) e.1 v
  | _ => .initialized ""
set_option maxRecDepth 100000 in
theorem pK_3 : ∀ w ∈ CK_3.map (wCst 3), w ∈ lw_tbl := mem_places [366, 367, 376] (by decide +kernel)
set_option maxRecDepth 100000 in
theorem pK_4 : ∀ w ∈ CK_4.map (wCst 4), w ∈ lw_tbl := mem_places [321, 322, 323] (by decide +kernel)
set_option maxRecDepth 100000 in
theorem pK_7 : ∀ w ∈ CK_7.map (wCst 7), w ∈ lw_tbl := mem_places [397, 398, 448, 453, 460, 490] (by decide +kernel)
def wNew (own : Nat) (e : Nat × Nat) : List Cond := match vwCl[e.2]? with
  | some r => [.classLink (CN own) e.1 r.1, .instantiable r.1 r.2.2]
  | none => []
set_option maxRecDepth 100000 in
theorem pN_3 : ∀ w ∈ NK_3.flatMap (wNew 3), w ∈ lw_tbl := mem_places [29, 30, 104, 105, 122, 123] (by decide +kernel)
set_option maxRecDepth 100000 in
theorem pN_7 : ∀ w ∈ NK_7.flatMap (wNew 7), w ∈ lw_tbl := mem_places [21, 22] (by decide +kernel)
set_option maxRecDepth 100000 in
theorem inF_0 : ∀ w ∈ u_ws RX0 TX0 8, w ∈ lw_tbl := mem_places [134, 136, 138, 140, 142, 144, 146, 148] (by decide +kernel)
set_option maxRecDepth 100000 in
theorem inF_1 : ∀ w ∈ u_ws RX1 TX1 3, w ∈ lw_tbl := mem_places [115, 117, 119] (by decide +kernel)
set_option maxRecDepth 100000 in
theorem inF_2 : ∀ w ∈ u_ws RX2 TX2 15, w ∈ lw_tbl := mem_places [71, 73, 75, 77, 79, 81, 83, 85, 87, 89, 91, 93, 95, 97, 99] (by decide +kernel)
set_option maxRecDepth 100000 in
theorem inF_3 : ∀ w ∈ u_ws RX3 TX3 8, w ∈ lw_tbl := mem_places [160, 162, 164, 166, 168, 170, 172, 174] (by decide +kernel)
set_option maxRecDepth 100000 in
theorem pX : ∀ w ∈ [Cond.arrayClass .int, .arrayClass .char, .arrayOver (.object RX2), .code objectInit ⟨#[0xb1]⟩ 1 none], w ∈ lw_tbl := mem_places [102, 151, 103, 28] (by decide +kernel)
end
section
/-! the code of each method, by program counter; it is what decode says -/
def tbOk (tb : List (Option (Instr × Nat))) (cd : ByteArray) : Bool := (List.range tb.length).all (fun pc => match tb[pc]? with
  | some (some q) => decide (decode cd pc = .ok (q.1, q.2))
  | _ => true)
def tbOne (tb : List (Option (Instr × Nat))) (cd : ByteArray) (pc : Nat) : Bool := match tb[pc]? with
  | some (some q) => decide (decode cd pc = .ok (q.1, q.2))
  | _ => true
def tbOkR (tb : List (Option (Instr × Nat))) (cd : ByteArray) (lo n : Nat) : Bool := (List.range n).all (fun k => tbOne tb cd (lo + k))
theorem tbAt {tb : List (Option (Instr × Nat))} {cd : ByteArray} {lo n : Nat} (h : tbOkR tb cd lo n = true) (pc : Nat) (h1 : lo ≤ pc) (h2 : pc < lo + n) : tbOne tb cd pc = true := by
  have h3 := List.all_eq_true.mp h (pc - lo) (List.mem_range.mpr (by omega))
  rw [Nat.add_sub_cancel' h1] at h3
  exact h3
theorem tbOk_of {tb : List (Option (Instr × Nat))} {cd : ByteArray} {n : Nat} (hn : tb.length = n) (h : ∀ pc, pc < n → tbOne tb cd pc = true) : tbOk tb cd = true := by
  subst hn
  exact List.all_eq_true.mpr (fun pc hp => h pc (List.mem_range.mp hp))
def tb_0 : List (Option (Instr × Nat)) := [some (.aload_n 0, 1), some (.invokespecial 3, 3), none, none, some (.aload_n 0, 1), some (.bipush 60, 2), none, some (.newarray .char, 2), none, some (.putfield 9, 3), none, none, some (.aload_n 0, 1), some (.bipush 21, 2), none, some (.newarray .int, 2), none, some (.putfield 15, 3), none, none, some (.aload_n 0, 1), some (.bipush 21, 2), none, some (.newarray .int, 2), none, some (.putfield 19, 3), none, none, some (.aload_n 0, 1), some (.bipush 21, 2), none, some (.newarray .int, 2), none, some (.putfield 22, 3), none, none, some (.aload_n 0, 1), some (.bipush 21, 2), none, some (.newarray .int, 2), none, some (.putfield 25, 3), none, none, some (.return_, 1)]
def tb_1 : List (Option (Instr × Nat)) := [some (.aload_n 0, 1), some (.invokespecial 3, 3), none, none, some (.aload_n 0, 1), some (.bipush 16, 2), none, some (.newarray .int, 2), none, some (.putfield 9, 3), none, none, some (.return_, 1)]
def tb_2 : List (Option (Instr × Nat)) := [some (.aload_n 0, 1), some (.iconst 0, 1), some (.putfield 15, 3), none, none, some (.aload_n 0, 1), some (.iconst 0, 1), some (.putfield 19, 3), none, none, some (.iconst 0, 1), some (.istore_n 3, 1), some (.iload_n 3, 1), some (.bipush 16, 2), none, some (.if_icmp .ge 16, 3), none, none, some (.aload_n 0, 1), some (.getfield 9, 3), none, none, some (.iload_n 3, 1), some (.iconst 0, 1), some (.iastore, 1), some (.iinc 3 1, 3), none, none, some (.goto (-16), 3), none, none, some (.aload_n 0, 1), some (.aload_n 1, 1), some (.iload_n 2, 1), some (.invokevirtual 22, 3), none, none, some (.iconst 0, 1), some (.istore_n 3, 1), some (.iconst 0, 1), some (.istore 4, 2), none, some (.iload 4, 2), none, some (.bipush 76, 2), none, some (.if_icmp .gt 29, 3), none, none, some (.aload_n 0, 1), some (.aload_n 1, 1), some (.invokevirtual 26, 3), none, none, some (.iload_n 3, 1), some (.if_icmp .le 20, 3), none, none, some (.aload_n 0, 1), some (.aload_n 1, 1), some (.invokevirtual 26, 3), none, none, some (.istore_n 3, 1), some (.aload_n 0, 1), some (.aload_n 1, 1), some (.invokevirtual 30, 3), none, none, some (.iinc 4 1, 3), none, none, some (.goto (-30), 3), none, none, some (.return_, 1)]
def tb_3 : List (Option (Instr × Nat)) := [some (.aload_n 0, 1), some (.getfield 15, 3), none, none, some (.invokestatic 34, 3), none, none, some (.aload_n 0, 1), some (.getfield 19, 3), none, none, some (.invokestatic 34, 3), none, none, some (.iadd, 1), some (.aload_n 0, 1), some (.aload_n 1, 1), some (.invokevirtual 40, 3), none, none, some (.iadd, 1), some (.ireturn, 1)]
def tb_4 : List (Option (Instr × Nat)) := [some (.iconst 0, 1), some (.istore_n 2, 1), some (.iconst 0, 1), some (.istore_n 3, 1), some (.iload_n 3, 1), some (.bipush 16, 2), none, some (.if_icmp .ge 29, 3), none, none, some (.iload_n 2, 1), some (.iconst 0, 1), some (.aload_n 0, 1), some (.getfield 9, 3), none, none, some (.iload_n 3, 1), some (.iaload, 1), some (.aload_n 1, 1), some (.getfield 43, 3), none, none, some (.iload_n 3, 1), some (.iaload, 1), some (.isub, 1), some (.invokestatic 48, 3), none, none, some (.iadd, 1), some (.istore_n 2, 1), some (.iinc 3 1, 3), none, none, some (.goto (-29), 3), none, none, some (.iload_n 2, 1), some (.ireturn, 1)]
def tb_5 : List (Option (Instr × Nat)) := [some (.aload_n 0, 1), some (.getfield 15, 3), none, none, some (.aload_n 1, 1), some (.invokevirtual 54, 3), none, none, some (.iand, 1), some (.istore_n 2, 1), some (.iconst 0, 1), some (.istore_n 3, 1), some (.iload_n 3, 1), some (.bipush 16, 2), none, some (.if_icmp .ge 22, 3), none, none, some (.iload_n 2, 1), some (.iload_n 3, 1), some (.invokestatic 58, 3), none, none, some (.ifCond .eq 8, 3), none, none, some (.bipush 100, 2), none, some (.iload_n 3, 1), some (.iadd, 1), some (.ireturn, 1), some (.iinc 3 1, 3), none, none, some (.goto (-22), 3), none, none, some (.iconst 0, 1), some (.istore_n 3, 1), some (.iload_n 3, 1), some (.bipush 12, 2), none, some (.if_icmp .ge 34, 3), none, none, some (.aload_n 0, 1), some (.getfield 19, 3), none, none, some (.iload_n 3, 1), some (.invokestatic 58, 3), none, none, some (.ifCond .eq 17, 3), none, none, some (.aload_n 1, 1), some (.iload_n 3, 1), some (.invokevirtual 62, 3), none, none, some (.ifCond .eq 9, 3), none, none, some (.sipush 200, 3), none, none, some (.iload_n 3, 1), some (.iadd, 1), some (.ireturn, 1), some (.iinc 3 1, 3), none, none, some (.goto (-34), 3), none, none, some (.iconst 0, 1), some (.istore_n 3, 1), some (.iload_n 3, 1), some (.bipush 16, 2), none, some (.if_icmp .ge 32, 3), none, none, some (.aload_n 0, 1), some (.aload_n 1, 1), some (.iload_n 3, 1), some (.invokevirtual 66, 3), none, none, some (.ifCond .eq 17, 3), none, none, some (.aload_n 1, 1), some (.iload_n 3, 1), some (.invokevirtual 70, 3), none, none, some (.ifCond .eq 9, 3), none, none, some (.sipush 300, 3), none, none, some (.iload_n 3, 1), some (.iadd, 1), some (.ireturn, 1), some (.iinc 3 1, 3), none, none, some (.goto (-32), 3), none, none, some (.bipush (-5), 2), none, some (.ireturn, 1)]
def tb_6 : List (Option (Instr × Nat)) := [some (.aload_n 0, 1), some (.getfield 9, 3), none, none, some (.iload_n 2, 1), some (.iaload, 1), some (.aload_n 1, 1), some (.getfield 43, 3), none, none, some (.iload_n 2, 1), some (.iaload, 1), some (.if_icmp .le 7, 3), none, none, some (.iconst 1, 1), some (.goto 4, 3), none, none, some (.iconst 0, 1), some (.ireturn, 1)]
def tb_7 : List (Option (Instr × Nat)) := [some (.iconst 0, 1), some (.istore_n 2, 1), some (.iload_n 2, 1), some (.bipush 16, 2), none, some (.if_icmp .ge 48, 3), none, none, some (.aload_n 0, 1), some (.getfield 15, 3), none, none, some (.iload_n 2, 1), some (.invokestatic 58, 3), none, none, some (.ifCond .eq 9, 3), none, none, some (.aload_n 0, 1), some (.aload_n 1, 1), some (.iload_n 2, 1), some (.invokevirtual 73, 3), none, none, some (.aload_n 0, 1), some (.aload_n 1, 1), some (.iload_n 2, 1), some (.invokevirtual 66, 3), none, none, some (.ifCond .eq 16, 3), none, none, some (.aload_n 0, 1), some (.aload_n 1, 1), some (.iload_n 2, 1), some (.invokevirtual 22, 3), none, none, some (.aload_n 0, 1), some (.aload_n 1, 1), some (.bipush 10, 2), none, some (.invokevirtual 76, 3), none, none, some (.iinc 2 1, 3), none, none, some (.goto (-48), 3), none, none, some (.iconst 0, 1), some (.istore_n 2, 1), some (.iload_n 2, 1), some (.bipush 12, 2), none, some (.if_icmp .ge 26, 3), none, none, some (.aload_n 0, 1), some (.getfield 19, 3), none, none, some (.iload_n 2, 1), some (.invokestatic 58, 3), none, none, some (.ifCond .eq 9, 3), none, none, some (.aload_n 0, 1), some (.aload_n 1, 1), some (.iload_n 2, 1), some (.invokevirtual 79, 3), none, none, some (.iinc 2 1, 3), none, none, some (.goto (-26), 3), none, none, some (.return_, 1)]
def tb_8 : List (Option (Instr × Nat)) := [some (.iload_n 2, 1), some (.istore_n 3, 1), some (.iconst 0, 1), some (.istore 4, 2), none, some (.iload 4, 2), none, some (.bipush 16, 2), none, some (.if_icmp .gt 30, 3), none, none, some (.aload_n 1, 1), some (.iload_n 3, 1), some (.invokevirtual 82, 3), none, none, some (.ifCond .eq 22, 3), none, none, some (.aload_n 0, 1), some (.aload_n 1, 1), some (.iload_n 3, 1), some (.invokevirtual 85, 3), none, none, some (.aload_n 1, 1), some (.getfield 88, 3), none, none, some (.iload_n 3, 1), some (.iaload, 1), some (.istore_n 3, 1), some (.iinc 4 1, 3), none, none, some (.goto (-31), 3), none, none, some (.return_, 1)]
def tb_9 : List (Option (Instr × Nat)) := [some (.aload_n 0, 1), some (.aload_n 1, 1), some (.iload_n 2, 1), some (.invokevirtual 22, 3), none, none, some (.aload_n 1, 1), some (.getfield 91, 3), none, none, some (.iload_n 2, 1), some (.iaload, 1), some (.iconst 1, 1), some (.if_icmp .ne 14, 3), none, none, some (.aload_n 0, 1), some (.aload_n 1, 1), some (.aload_n 1, 1), some (.getfield 94, 3), none, none, some (.iload_n 2, 1), some (.iaload, 1), some (.invokevirtual 76, 3), none, none, some (.aload_n 1, 1), some (.getfield 91, 3), none, none, some (.iload_n 2, 1), some (.iaload, 1), some (.iconst 2, 1), some (.if_icmp .ne 14, 3), none, none, some (.aload_n 0, 1), some (.aload_n 1, 1), some (.aload_n 1, 1), some (.getfield 94, 3), none, none, some (.iload_n 2, 1), some (.iaload, 1), some (.invokevirtual 85, 3), none, none, some (.return_, 1)]
def tb_10 : List (Option (Instr × Nat)) := [some (.aload_n 1, 1), some (.getfield 97, 3), none, none, some (.iload_n 2, 1), some (.iaload, 1), some (.istore_n 3, 1), some (.aload_n 1, 1), some (.iload_n 3, 1), some (.invokevirtual 82, 3), none, none, some (.ifCond .eq 30, 3), none, none, some (.aload_n 0, 1), some (.aload_n 1, 1), some (.iload_n 3, 1), some (.invokevirtual 22, 3), none, none, some (.aload_n 0, 1), some (.getfield 9, 3), none, none, some (.iload_n 3, 1), some (.aload_n 0, 1), some (.getfield 9, 3), none, none, some (.iload_n 3, 1), some (.iaload, 1), some (.aload_n 1, 1), some (.getfield 100, 3), none, none, some (.iload_n 2, 1), some (.iaload, 1), some (.invokestatic 48, 3), none, none, some (.iastore, 1), some (.return_, 1)]
def tb_11 : List (Option (Instr × Nat)) := [some (.aload_n 1, 1), some (.iload_n 2, 1), some (.invokevirtual 103, 3), none, none, some (.ifCond .ne 16, 3), none, none, some (.aload_n 0, 1), some (.dup, 1), some (.getfield 15, 3), none, none, some (.iload_n 2, 1), some (.invokestatic 106, 3), none, none, some (.ior, 1), some (.putfield 15, 3), none, none, some (.return_, 1)]
def tb_12 : List (Option (Instr × Nat)) := [some (.aload_n 1, 1), some (.iload_n 2, 1), some (.invokevirtual 109, 3), none, none, some (.ifCond .ne 16, 3), none, none, some (.aload_n 0, 1), some (.dup, 1), some (.getfield 19, 3), none, none, some (.iload_n 2, 1), some (.invokestatic 106, 3), none, none, some (.ior, 1), some (.putfield 19, 3), none, none, some (.return_, 1)]
def tb_13 : List (Option (Instr × Nat)) := [some (.aload_n 0, 1), some (.invokespecial 3, 3), none, none, some (.aload_n 0, 1), some (.bipush 16, 2), none, some (.newarray .int, 2), none, some (.putfield 9, 3), none, none, some (.aload_n 0, 1), some (.bipush 16, 2), none, some (.newarray .int, 2), none, some (.putfield 15, 3), none, none, some (.aload_n 0, 1), some (.bipush 16, 2), none, some (.newarray .int, 2), none, some (.putfield 18, 3), none, none, some (.aload_n 0, 1), some (.bipush 16, 2), none, some (.newarray .int, 2), none, some (.putfield 21, 3), none, none, some (.aload_n 0, 1), some (.bipush 16, 2), none, some (.newarray .int, 2), none, some (.putfield 24, 3), none, none, some (.aload_n 0, 1), some (.bipush 16, 2), none, some (.newarray .int, 2), none, some (.putfield 27, 3), none, none, some (.aload_n 0, 1), some (.bipush 12, 2), none, some (.newarray .int, 2), none, some (.putfield 30, 3), none, none, some (.aload_n 0, 1), some (.bipush 12, 2), none, some (.newarray .int, 2), none, some (.putfield 33, 3), none, none, some (.iconst 0, 1), some (.istore_n 1, 1), some (.iload_n 1, 1), some (.bipush 12, 2), none, some (.if_icmp .ge 17, 3), none, none, some (.aload_n 0, 1), some (.getfield 30, 3), none, none, some (.iload_n 1, 1), some (.bipush (-5), 2), none, some (.iastore, 1), some (.iinc 1 1, 3), none, none, some (.goto (-17), 3), none, none, some (.return_, 1)]
def tb_14 : List (Option (Instr × Nat)) := [some (.aload_n 0, 1), some (.aload_n 1, 1), some (.getfield 36, 3), none, none, some (.putfield 36, 3), none, none, some (.aload_n 0, 1), some (.aload_n 1, 1), some (.getfield 40, 3), none, none, some (.putfield 40, 3), none, none, some (.aload_n 0, 1), some (.aload_n 1, 1), some (.getfield 44, 3), none, none, some (.putfield 44, 3), none, none, some (.aload_n 0, 1), some (.aload_n 1, 1), some (.getfield 47, 3), none, none, some (.putfield 47, 3), none, none, some (.aload_n 0, 1), some (.aload_n 1, 1), some (.getfield 50, 3), none, none, some (.putfield 50, 3), none, none, some (.aload_n 0, 1), some (.aload_n 1, 1), some (.getfield 53, 3), none, none, some (.putfield 53, 3), none, none, some (.aload_n 0, 1), some (.aload_n 1, 1), some (.getfield 56, 3), none, none, some (.putfield 56, 3), none, none, some (.aload_n 1, 1), some (.getfield 9, 3), none, none, some (.iconst 0, 1), some (.aload_n 0, 1), some (.getfield 9, 3), none, none, some (.iconst 0, 1), some (.bipush 16, 2), none, some (.invokestatic 59, 3), none, none, some (.aload_n 1, 1), some (.getfield 15, 3), none, none, some (.iconst 0, 1), some (.aload_n 0, 1), some (.getfield 15, 3), none, none, some (.iconst 0, 1), some (.bipush 16, 2), none, some (.invokestatic 59, 3), none, none, some (.aload_n 1, 1), some (.getfield 18, 3), none, none, some (.iconst 0, 1), some (.aload_n 0, 1), some (.getfield 18, 3), none, none, some (.iconst 0, 1), some (.bipush 16, 2), none, some (.invokestatic 59, 3), none, none, some (.aload_n 1, 1), some (.getfield 21, 3), none, none, some (.iconst 0, 1), some (.aload_n 0, 1), some (.getfield 21, 3), none, none, some (.iconst 0, 1), some (.bipush 16, 2), none, some (.invokestatic 59, 3), none, none, some (.aload_n 1, 1), some (.getfield 24, 3), none, none, some (.iconst 0, 1), some (.aload_n 0, 1), some (.getfield 24, 3), none, none, some (.iconst 0, 1), some (.bipush 16, 2), none, some (.invokestatic 59, 3), none, none, some (.aload_n 1, 1), some (.getfield 27, 3), none, none, some (.iconst 0, 1), some (.aload_n 0, 1), some (.getfield 27, 3), none, none, some (.iconst 0, 1), some (.bipush 16, 2), none, some (.invokestatic 59, 3), none, none, some (.aload_n 1, 1), some (.getfield 30, 3), none, none, some (.iconst 0, 1), some (.aload_n 0, 1), some (.getfield 30, 3), none, none, some (.iconst 0, 1), some (.bipush 12, 2), none, some (.invokestatic 59, 3), none, none, some (.aload_n 1, 1), some (.getfield 33, 3), none, none, some (.iconst 0, 1), some (.aload_n 0, 1), some (.getfield 33, 3), none, none, some (.iconst 0, 1), some (.bipush 12, 2), none, some (.invokestatic 59, 3), none, none, some (.return_, 1)]
def tb_15 : List (Option (Instr × Nat)) := [some (.aload_n 0, 1), some (.getfield 36, 3), none, none, some (.bipush 16, 2), none, some (.if_icmp .ge 90, 3), none, none, some (.aload_n 0, 1), some (.getfield 9, 3), none, none, some (.aload_n 0, 1), some (.getfield 36, 3), none, none, some (.iload_n 1, 1), some (.iastore, 1), some (.aload_n 0, 1), some (.getfield 15, 3), none, none, some (.aload_n 0, 1), some (.getfield 36, 3), none, none, some (.iload_n 2, 1), some (.iastore, 1), some (.aload_n 0, 1), some (.getfield 18, 3), none, none, some (.aload_n 0, 1), some (.getfield 36, 3), none, none, some (.iload_n 2, 1), some (.iconst 1, 1), some (.if_icmp .eq 8, 3), none, none, some (.iload_n 2, 1), some (.iconst 2, 1), some (.if_icmp .ne 7, 3), none, none, some (.iload_n 3, 1), some (.goto 5, 3), none, none, some (.bipush (-5), 2), none, some (.iastore, 1), some (.aload_n 0, 1), some (.getfield 21, 3), none, none, some (.aload_n 0, 1), some (.getfield 36, 3), none, none, some (.iload 4, 2), none, some (.iastore, 1), some (.aload_n 0, 1), some (.getfield 24, 3), none, none, some (.aload_n 0, 1), some (.getfield 36, 3), none, none, some (.iload 5, 2), none, some (.iastore, 1), some (.aload_n 0, 1), some (.getfield 27, 3), none, none, some (.aload_n 0, 1), some (.getfield 36, 3), none, none, some (.iconst 0, 1), some (.iastore, 1), some (.aload_n 0, 1), some (.dup, 1), some (.getfield 36, 3), none, none, some (.iconst 1, 1), some (.iadd, 1), some (.putfield 36, 3), none, none, some (.return_, 1)]
def tb_16 : List (Option (Instr × Nat)) := [some (.aload_n 0, 1), some (.getfield 24, 3), none, none, some (.iload_n 1, 1), some (.iload_n 2, 1), some (.iastore, 1), some (.iconst 0, 1), some (.istore_n 3, 1), some (.iload_n 3, 1), some (.bipush 12, 2), none, some (.if_icmp .ge 36, 3), none, none, some (.aload_n 0, 1), some (.getfield 30, 3), none, none, some (.iload_n 3, 1), some (.iaload, 1), some (.iload_n 1, 1), some (.if_icmp .ne 20, 3), none, none, some (.aload_n 0, 1), some (.getfield 33, 3), none, none, some (.iload_n 3, 1), some (.iaload, 1), some (.iload_n 2, 1), some (.if_icmp .le 10, 3), none, none, some (.aload_n 0, 1), some (.getfield 33, 3), none, none, some (.iload_n 3, 1), some (.iload_n 2, 1), some (.iastore, 1), some (.iinc 3 1, 3), none, none, some (.goto (-36), 3), none, none, some (.return_, 1)]
def tb_17 : List (Option (Instr × Nat)) := [some (.aload_n 0, 1), some (.iconst 0, 1), some (.putfield 40, 3), none, none, some (.aload_n 0, 1), some (.iconst 0, 1), some (.putfield 44, 3), none, none, some (.aload_n 0, 1), some (.iconst 0, 1), some (.putfield 47, 3), none, none, some (.aload_n 0, 1), some (.iconst 0, 1), some (.putfield 50, 3), none, none, some (.aload_n 0, 1), some (.iconst 0, 1), some (.putfield 53, 3), none, none, some (.aload_n 0, 1), some (.iconst 0, 1), some (.putfield 56, 3), none, none, some (.iconst 0, 1), some (.istore_n 1, 1), some (.iload_n 1, 1), some (.bipush 16, 2), none, some (.if_icmp .ge 16, 3), none, none, some (.aload_n 0, 1), some (.getfield 27, 3), none, none, some (.iload_n 1, 1), some (.iconst 0, 1), some (.iastore, 1), some (.iinc 1 1, 3), none, none, some (.goto (-16), 3), none, none, some (.return_, 1)]
def tb_18 : List (Option (Instr × Nat)) := [some (.iload_n 1, 1), some (.ifCond .lt 15, 3), none, none, some (.iload_n 1, 1), some (.aload_n 0, 1), some (.getfield 36, 3), none, none, some (.if_icmp .ge 7, 3), none, none, some (.iconst 1, 1), some (.goto 4, 3), none, none, some (.iconst 0, 1), some (.ireturn, 1)]
def tb_19 : List (Option (Instr × Nat)) := [some (.aload_n 0, 1), some (.getfield 50, 3), none, none, some (.iconst 1, 1), some (.iload_n 1, 1), some (.ishl, 1), some (.iand, 1), some (.ifCond .eq 7, 3), none, none, some (.iconst 1, 1), some (.goto 4, 3), none, none, some (.iconst 0, 1), some (.ireturn, 1)]
def tb_20 : List (Option (Instr × Nat)) := [some (.aload_n 0, 1), some (.getfield 56, 3), none, none, some (.iconst 1, 1), some (.iload_n 1, 1), some (.ishl, 1), some (.iand, 1), some (.ifCond .eq 7, 3), none, none, some (.iconst 1, 1), some (.goto 4, 3), none, none, some (.iconst 0, 1), some (.ireturn, 1)]
def tb_21 : List (Option (Instr × Nat)) := [some (.aload_n 0, 1), some (.getfield 9, 3), none, none, some (.iload_n 1, 1), some (.iaload, 1), some (.istore_n 2, 1), some (.iconst 0, 1), some (.istore_n 3, 1), some (.iload_n 3, 1), some (.bipush 16, 2), none, some (.if_icmp .ge 34, 3), none, none, some (.aload_n 0, 1), some (.iload_n 2, 1), some (.invokevirtual 65, 3), none, none, some (.ifCond .eq 26, 3), none, none, some (.aload_n 0, 1), some (.iload_n 2, 1), some (.invokevirtual 69, 3), none, none, some (.ifCond .ne 5, 3), none, none, some (.iconst 0, 1), some (.ireturn, 1), some (.aload_n 0, 1), some (.getfield 9, 3), none, none, some (.iload_n 2, 1), some (.iaload, 1), some (.istore_n 2, 1), some (.iinc 3 1, 3), none, none, some (.goto (-34), 3), none, none, some (.iconst 1, 1), some (.ireturn, 1)]
def tb_22 : List (Option (Instr × Nat)) := [some (.aload_n 0, 1), some (.iload_n 1, 1), some (.invokevirtual 69, 3), none, none, some (.ifCond .ne 23, 3), none, none, some (.aload_n 0, 1), some (.iload_n 1, 1), some (.invokevirtual 72, 3), none, none, some (.ifCond .eq 15, 3), none, none, some (.aload_n 0, 1), some (.iload_n 1, 1), some (.invokevirtual 75, 3), none, none, some (.ifCond .eq 7, 3), none, none, some (.iconst 1, 1), some (.goto 4, 3), none, none, some (.iconst 0, 1), some (.ireturn, 1)]
def tb_23 : List (Option (Instr × Nat)) := [some (.aload_n 0, 1), some (.getfield 15, 3), none, none, some (.iload_n 1, 1), some (.iaload, 1), some (.lookupswitch 48 #[(1, 26), (2, 37)], 26), none, none, none, none, none, none, none, none, none, none, none, none, none, none, none, none, none, none, none, none, none, none, none, none, none, some (.aload_n 0, 1), some (.aload_n 0, 1), some (.getfield 18, 3), none, none, some (.iload_n 1, 1), some (.iaload, 1), some (.invokevirtual 78, 3), none, none, some (.ireturn, 1), some (.aload_n 0, 1), some (.aload_n 0, 1), some (.getfield 18, 3), none, none, some (.iload_n 1, 1), some (.iaload, 1), some (.invokevirtual 69, 3), none, none, some (.ireturn, 1), some (.iconst 1, 1), some (.ireturn, 1)]
def tb_24 : List (Option (Instr × Nat)) := [some (.aload_n 0, 1), some (.getfield 27, 3), none, none, some (.iload_n 1, 1), some (.iaload, 1), some (.aload_n 0, 1), some (.getfield 24, 3), none, none, some (.iload_n 1, 1), some (.iaload, 1), some (.if_icmp .ge 7, 3), none, none, some (.iconst 1, 1), some (.goto 4, 3), none, none, some (.iconst 0, 1), some (.ireturn, 1)]
def tb_25 : List (Option (Instr × Nat)) := [some (.aload_n 0, 1), some (.iload_n 1, 1), some (.invokevirtual 81, 3), none, none, some (.ifCond .eq 32, 3), none, none, some (.aload_n 0, 1), some (.iload_n 1, 1), some (.invokevirtual 69, 3), none, none, some (.ifCond .eq 24, 3), none, none, some (.aload_n 0, 1), some (.iload_n 1, 1), some (.invokevirtual 72, 3), none, none, some (.ifCond .eq 16, 3), none, none, some (.aload_n 0, 1), some (.bipush 10, 2), none, some (.invokevirtual 78, 3), none, none, some (.ifCond .eq 7, 3), none, none, some (.iconst 1, 1), some (.goto 4, 3), none, none, some (.iconst 0, 1), some (.ireturn, 1)]
def tb_26 : List (Option (Instr × Nat)) := [some (.aload_n 0, 1), some (.iload_n 1, 1), some (.invokevirtual 78, 3), none, none, some (.ifCond .eq 5, 3), none, none, some (.iconst 0, 1), some (.ireturn, 1), some (.aload_n 0, 1), some (.getfield 30, 3), none, none, some (.iload_n 1, 1), some (.iaload, 1), some (.istore_n 2, 1), some (.aload_n 0, 1), some (.iload_n 2, 1), some (.invokevirtual 65, 3), none, none, some (.ifCond .ne 5, 3), none, none, some (.iconst 1, 1), some (.ireturn, 1), some (.aload_n 0, 1), some (.iload_n 2, 1), some (.invokevirtual 69, 3), none, none, some (.ifCond .eq 30, 3), none, none, some (.aload_n 0, 1), some (.iload_n 2, 1), some (.invokevirtual 72, 3), none, none, some (.ifCond .eq 22, 3), none, none, some (.aload_n 0, 1), some (.getfield 27, 3), none, none, some (.iload_n 2, 1), some (.iaload, 1), some (.aload_n 0, 1), some (.getfield 33, 3), none, none, some (.iload_n 1, 1), some (.iaload, 1), some (.if_icmp .lt 7, 3), none, none, some (.iconst 1, 1), some (.goto 4, 3), none, none, some (.iconst 0, 1), some (.ireturn, 1)]
def tb_27 : List (Option (Instr × Nat)) := [some (.aload_n 0, 1), some (.getfield 53, 3), none, none, some (.iload_n 1, 1), some (.invokestatic 84, 3), none, none, some (.ifCond .eq 32, 3), none, none, some (.aload_n 0, 1), some (.iload_n 1, 1), some (.invokevirtual 69, 3), none, none, some (.ifCond .ne 24, 3), none, none, some (.aload_n 0, 1), some (.iload_n 1, 1), some (.invokevirtual 72, 3), none, none, some (.ifCond .eq 16, 3), none, none, some (.aload_n 0, 1), some (.bipush 11, 2), none, some (.invokevirtual 78, 3), none, none, some (.ifCond .eq 7, 3), none, none, some (.iconst 1, 1), some (.goto 4, 3), none, none, some (.iconst 0, 1), some (.ireturn, 1)]
def tb_28 : List (Option (Instr × Nat)) := [some (.aload_n 0, 1), some (.dup, 1), some (.getfield 50, 3), none, none, some (.iload_n 1, 1), some (.invokestatic 88, 3), none, none, some (.ior, 1), some (.putfield 50, 3), none, none, some (.aload_n 0, 1), some (.getfield 15, 3), none, none, some (.iload_n 1, 1), some (.iaload, 1), some (.iconst 3, 1), some (.if_icmp .ne 16, 3), none, none, some (.aload_n 0, 1), some (.dup, 1), some (.getfield 53, 3), none, none, some (.iload_n 1, 1), some (.invokestatic 88, 3), none, none, some (.ior, 1), some (.putfield 53, 3), none, none, some (.return_, 1)]
def tb_29 : List (Option (Instr × Nat)) := [some (.aload_n 0, 1), some (.dup, 1), some (.getfield 44, 3), none, none, some (.iconst 1, 1), some (.iadd, 1), some (.putfield 44, 3), none, none, some (.aload_n 0, 1), some (.dup, 1), some (.getfield 47, 3), none, none, some (.iload_n 1, 1), some (.iadd, 1), some (.putfield 47, 3), none, none, some (.return_, 1)]
def tb_30 : List (Option (Instr × Nat)) := [some (.iconst 1, 1), some (.istore_n 1, 1), some (.iconst 0, 1), some (.istore_n 2, 1), some (.iload_n 2, 1), some (.bipush 76, 2), none, some (.if_icmp .gt 18, 3), none, none, some (.iload_n 1, 1), some (.ifCond .eq 14, 3), none, none, some (.aload_n 0, 1), some (.invokevirtual 92, 3), none, none, some (.istore_n 1, 1), some (.iinc 2 1, 3), none, none, some (.goto (-18), 3), none, none, some (.return_, 1)]
def tb_31 : List (Option (Instr × Nat)) := [some (.iconst 0, 1), some (.istore_n 1, 1), some (.iconst 0, 1), some (.istore_n 2, 1), some (.iload_n 2, 1), some (.aload_n 0, 1), some (.getfield 36, 3), none, none, some (.if_icmp .ge 44, 3), none, none, some (.aload_n 0, 1), some (.iload_n 2, 1), some (.invokevirtual 96, 3), none, none, some (.ifCond .eq 10, 3), none, none, some (.aload_n 0, 1), some (.iload_n 2, 1), some (.invokevirtual 99, 3), none, none, some (.iconst 1, 1), some (.istore_n 1, 1), some (.aload_n 0, 1), some (.iload_n 2, 1), some (.invokevirtual 103, 3), none, none, some (.ifCond .eq 15, 3), none, none, some (.aload_n 0, 1), some (.getfield 27, 3), none, none, some (.iload_n 2, 1), some (.dup2, 1), some (.iaload, 1), some (.iconst 1, 1), some (.iadd, 1), some (.iastore, 1), some (.iconst 1, 1), some (.istore_n 1, 1), some (.iinc 2 1, 3), none, none, some (.goto (-46), 3), none, none, some (.iconst 0, 1), some (.istore_n 2, 1), some (.iload_n 2, 1), some (.bipush 12, 2), none, some (.if_icmp .ge 32, 3), none, none, some (.aload_n 0, 1), some (.iload_n 2, 1), some (.invokevirtual 106, 3), none, none, some (.ifCond .eq 18, 3), none, none, some (.aload_n 0, 1), some (.dup, 1), some (.getfield 56, 3), none, none, some (.iload_n 2, 1), some (.invokestatic 88, 3), none, none, some (.ior, 1), some (.putfield 56, 3), none, none, some (.iconst 1, 1), some (.istore_n 1, 1), some (.iinc 2 1, 3), none, none, some (.goto (-32), 3), none, none, some (.iload_n 1, 1), some (.ireturn, 1)]
def tb_32 : List (Option (Instr × Nat)) := [some (.iconst 0, 1), some (.istore_n 1, 1), some (.iload_n 1, 1), some (.aload_n 0, 1), some (.getfield 36, 3), none, none, some (.if_icmp .ge 34, 3), none, none, some (.aload_n 0, 1), some (.getfield 15, 3), none, none, some (.iload_n 1, 1), some (.iaload, 1), some (.iconst 2, 1), some (.if_icmp .ne 18, 3), none, none, some (.aload_n 0, 1), some (.aload_n 0, 1), some (.getfield 18, 3), none, none, some (.iload_n 1, 1), some (.iaload, 1), some (.invokevirtual 65, 3), none, none, some (.ifCond .ne 5, 3), none, none, some (.iconst 0, 1), some (.ireturn, 1), some (.iinc 1 1, 3), none, none, some (.goto (-36), 3), none, none, some (.iconst 1, 1), some (.ireturn, 1)]
def tb_33 : List (Option (Instr × Nat)) := [some (.iconst 0, 1), some (.istore_n 1, 1), some (.iconst 0, 1), some (.istore_n 2, 1), some (.iload_n 2, 1), some (.aload_n 0, 1), some (.getfield 36, 3), none, none, some (.if_icmp .ge 24, 3), none, none, some (.aload_n 0, 1), some (.iload_n 2, 1), some (.invokevirtual 96, 3), none, none, some (.ifCond .eq 10, 3), none, none, some (.iload_n 1, 1), some (.iload_n 2, 1), some (.invokestatic 88, 3), none, none, some (.ior, 1), some (.istore_n 1, 1), some (.iinc 2 1, 3), none, none, some (.goto (-26), 3), none, none, some (.iload_n 1, 1), some (.ireturn, 1)]
def tb_34 : List (Option (Instr × Nat)) := [some (.iconst 0, 1), some (.istore_n 2, 1), some (.iconst 0, 1), some (.istore_n 3, 1), some (.iload_n 3, 1), some (.aload_n 0, 1), some (.getfield 36, 3), none, none, some (.if_icmp .ge 41, 3), none, none, some (.iload_n 1, 1), some (.iload_n 3, 1), some (.invokestatic 84, 3), none, none, some (.ifCond .eq 27, 3), none, none, some (.aload_n 0, 1), some (.getfield 15, 3), none, none, some (.iload_n 3, 1), some (.iaload, 1), some (.iconst 3, 1), some (.if_icmp .ne 17, 3), none, none, some (.aload_n 0, 1), some (.getfield 53, 3), none, none, some (.iload_n 3, 1), some (.invokestatic 84, 3), none, none, some (.ifCond .ne 6, 3), none, none, some (.iinc 2 1, 3), none, none, some (.iinc 3 1, 3), none, none, some (.goto (-43), 3), none, none, some (.iload_n 2, 1), some (.ireturn, 1)]
def tb_35 : List (Option (Instr × Nat)) := [some (.iconst 0, 1), some (.istore_n 1, 1), some (.iconst 0, 1), some (.istore_n 2, 1), some (.iload_n 2, 1), some (.bipush 12, 2), none, some (.if_icmp .ge 25, 3), none, none, some (.aload_n 0, 1), some (.aload_n 0, 1), some (.getfield 30, 3), none, none, some (.iload_n 2, 1), some (.iaload, 1), some (.invokevirtual 65, 3), none, none, some (.ifCond .eq 6, 3), none, none, some (.iinc 1 1, 3), none, none, some (.iinc 2 1, 3), none, none, some (.goto (-25), 3), none, none, some (.iload_n 1, 1), some (.ireturn, 1)]
def tb_36 : List (Option (Instr × Nat)) := [some (.iconst 0, 1), some (.istore_n 2, 1), some (.iconst 0, 1), some (.istore_n 3, 1), some (.iload_n 3, 1), some (.bipush 12, 2), none, some (.if_icmp .ge 30, 3), none, none, some (.aload_n 0, 1), some (.getfield 30, 3), none, none, some (.iload_n 3, 1), some (.iaload, 1), some (.iload_n 1, 1), some (.if_icmp .ne 14, 3), none, none, some (.aload_n 0, 1), some (.iload_n 3, 1), some (.invokevirtual 78, 3), none, none, some (.ifCond .ne 6, 3), none, none, some (.iinc 2 1, 3), none, none, some (.iinc 3 1, 3), none, none, some (.goto (-30), 3), none, none, some (.iload_n 2, 1), some (.ireturn, 1)]
def tb_37 : List (Option (Instr × Nat)) := [some (.aload_n 0, 1), some (.getfield 9, 3), none, none, some (.iload_n 1, 1), some (.iaload, 1), some (.istore_n 2, 1), some (.iconst 0, 1), some (.istore_n 3, 1), some (.iload_n 3, 1), some (.bipush 16, 2), none, some (.if_icmp .ge 24, 3), none, none, some (.aload_n 0, 1), some (.iload_n 2, 1), some (.invokevirtual 65, 3), none, none, some (.ifCond .eq 16, 3), none, none, some (.iinc 3 1, 3), none, none, some (.aload_n 0, 1), some (.getfield 9, 3), none, none, some (.iload_n 2, 1), some (.iaload, 1), some (.istore_n 2, 1), some (.goto (-24), 3), none, none, some (.iload_n 3, 1), some (.ireturn, 1)]
def tb_38 : List (Option (Instr × Nat)) := [some (.aload_n 0, 1), some (.invokespecial 3, 3), none, none, some (.aload_n 0, 1), some (.new 9, 3), none, none, some (.dup, 1), some (.invokespecial 11, 3), none, none, some (.putfield 12, 3), none, none, some (.aload_n 0, 1), some (.new 9, 3), none, none, some (.dup, 1), some (.invokespecial 11, 3), none, none, some (.putfield 16, 3), none, none, some (.aload_n 0, 1), some (.new 9, 3), none, none, some (.dup, 1), some (.invokespecial 11, 3), none, none, some (.putfield 19, 3), none, none, some (.aload_n 0, 1), some (.iconst 4, 1), some (.anewarray 9, 3), none, none, some (.putfield 22, 3), none, none, some (.aload_n 0, 1), some (.new 26, 3), none, none, some (.dup, 1), some (.invokespecial 28, 3), none, none, some (.putfield 29, 3), none, none, some (.aload_n 0, 1), some (.new 33, 3), none, none, some (.dup, 1), some (.invokespecial 35, 3), none, none, some (.putfield 36, 3), none, none, some (.iconst 0, 1), some (.istore_n 1, 1), some (.iload_n 1, 1), some (.iconst 4, 1), some (.if_icmp .ge 22, 3), none, none, some (.aload_n 0, 1), some (.getfield 22, 3), none, none, some (.iload_n 1, 1), some (.new 9, 3), none, none, some (.dup, 1), some (.invokespecial 11, 3), none, none, some (.aastore, 1), some (.iinc 1 1, 3), none, none, some (.goto (-21), 3), none, none, some (.aload_n 0, 1), some (.iconst 0, 1), some (.putfield 40, 3), none, none, some (.aload_n 0, 1), some (.iconst 0, 1), some (.putfield 44, 3), none, none, some (.return_, 1)]
def tb_39 : List (Option (Instr × Nat)) := [some (.iload_n 1, 1), some (.bipush (-5), 2), none, some (.if_icmp .eq 16, 3), none, none, some (.aload_n 0, 1), some (.getfield 12, 3), none, none, some (.iload_n 1, 1), some (.invokevirtual 48, 3), none, none, some (.ifCond .ne 5, 3), none, none, some (.iconst (-1), 1), some (.ireturn, 1), some (.iload_n 2, 1), some (.iload_n 3, 1), some (.invokestatic 52, 3), none, none, some (.ifCond .eq 15, 3), none, none, some (.iload 4, 2), none, some (.ifCond .lt 10, 3), none, none, some (.iload 4, 2), none, some (.bipush 9, 2), none, some (.if_icmp .le 6, 3), none, none, some (.bipush (-2), 2), none, some (.ireturn, 1), some (.aload_n 0, 1), some (.getfield 12, 3), none, none, some (.getfield 56, 3), none, none, some (.bipush 16, 2), none, some (.if_icmp .lt 6, 3), none, none, some (.bipush (-3), 2), none, some (.ireturn, 1), some (.aload_n 0, 1), some (.getfield 12, 3), none, none, some (.getfield 59, 3), none, none, some (.ifCond .eq 6, 3), none, none, some (.bipush (-4), 2), none, some (.ireturn, 1), some (.aload_n 0, 1), some (.invokevirtual 62, 3), none, none, some (.aload_n 0, 1), some (.getfield 12, 3), none, none, some (.iload_n 1, 1), some (.iload_n 2, 1), some (.iload_n 3, 1), some (.iload 4, 2), none, some (.iconst 0, 1), some (.invokevirtual 65, 3), none, none, some (.aload_n 0, 1), some (.getfield 12, 3), none, none, some (.getfield 56, 3), none, none, some (.iconst 1, 1), some (.isub, 1), some (.ireturn, 1)]
def tb_40 : List (Option (Instr × Nat)) := [some (.aload_n 0, 1), some (.getfield 12, 3), none, none, some (.iload_n 1, 1), some (.invokevirtual 48, 3), none, none, some (.ifCond .ne 5, 3), none, none, some (.iconst (-1), 1), some (.ireturn, 1), some (.iload_n 2, 1), some (.ifCond .lt 8, 3), none, none, some (.iload_n 2, 1), some (.iconst 3, 1), some (.if_icmp .le 6, 3), none, none, some (.bipush (-2), 2), none, some (.ireturn, 1), some (.aload_n 0, 1), some (.getfield 12, 3), none, none, some (.getfield 59, 3), none, none, some (.ifCond .eq 6, 3), none, none, some (.bipush (-4), 2), none, some (.ireturn, 1), some (.aload_n 0, 1), some (.getfield 12, 3), none, none, some (.getfield 92, 3), none, none, some (.iload_n 1, 1), some (.iaload, 1), some (.istore_n 3, 1), some (.iload_n 3, 1), some (.iload_n 2, 1), some (.if_icmp .ne 6, 3), none, none, some (.bipush (-5), 2), none, some (.ireturn, 1), some (.aload_n 0, 1), some (.invokevirtual 62, 3), none, none, some (.aload_n 0, 1), some (.getfield 12, 3), none, none, some (.iload_n 1, 1), some (.iload_n 2, 1), some (.invokevirtual 93, 3), none, none, some (.iload_n 3, 1), some (.ireturn, 1)]
def tb_41 : List (Option (Instr × Nat)) := [some (.iload_n 1, 1), some (.invokestatic 97, 3), none, none, some (.ifCond .eq 20, 3), none, none, some (.iload_n 2, 1), some (.bipush (-5), 2), none, some (.if_icmp .eq 16, 3), none, none, some (.aload_n 0, 1), some (.getfield 12, 3), none, none, some (.iload_n 2, 1), some (.invokevirtual 48, 3), none, none, some (.ifCond .ne 5, 3), none, none, some (.iconst (-1), 1), some (.ireturn, 1), some (.iload_n 2, 1), some (.bipush (-5), 2), none, some (.if_icmp .ne 7, 3), none, none, some (.iconst 0, 1), some (.goto 12, 3), none, none, some (.aload_n 0, 1), some (.getfield 12, 3), none, none, some (.getfield 92, 3), none, none, some (.iload_n 2, 1), some (.iaload, 1), some (.istore 4, 2), none, some (.iload_n 3, 1), some (.ifCond .lt 9, 3), none, none, some (.iload_n 3, 1), some (.iload 4, 2), none, some (.if_icmp .le 6, 3), none, none, some (.bipush (-2), 2), none, some (.ireturn, 1), some (.aload_n 0, 1), some (.getfield 12, 3), none, none, some (.getfield 59, 3), none, none, some (.ifCond .eq 6, 3), none, none, some (.bipush (-4), 2), none, some (.ireturn, 1), some (.aload_n 0, 1), some (.getfield 12, 3), none, none, some (.getfield 100, 3), none, none, some (.iload_n 1, 1), some (.iaload, 1), some (.iload_n 2, 1), some (.if_icmp .ne 19, 3), none, none, some (.aload_n 0, 1), some (.getfield 12, 3), none, none, some (.getfield 103, 3), none, none, some (.iload_n 1, 1), some (.iaload, 1), some (.iload_n 3, 1), some (.if_icmp .ne 6, 3), none, none, some (.bipush (-5), 2), none, some (.ireturn, 1), some (.aload_n 0, 1), some (.invokevirtual 62, 3), none, none, some (.aload_n 0, 1), some (.getfield 12, 3), none, none, some (.getfield 100, 3), none, none, some (.iload_n 1, 1), some (.iload_n 2, 1), some (.iastore, 1), some (.aload_n 0, 1), some (.getfield 12, 3), none, none, some (.getfield 103, 3), none, none, some (.iload_n 1, 1), some (.iload_n 3, 1), some (.iastore, 1), some (.aload_n 0, 1), some (.getfield 12, 3), none, none, some (.invokevirtual 106, 3), none, none, some (.ireturn, 1)]
def tb_42 : List (Option (Instr × Nat)) := [some (.aload_n 0, 1), some (.getfield 12, 3), none, none, some (.getfield 59, 3), none, none, some (.ifCond .ne 23, 3), none, none, some (.aload_n 0, 1), some (.getfield 12, 3), none, none, some (.getfield 56, 3), none, none, some (.ifCond .eq 13, 3), none, none, some (.aload_n 0, 1), some (.getfield 12, 3), none, none, some (.invokevirtual 109, 3), none, none, some (.ifCond .ne 6, 3), none, none, some (.bipush (-4), 2), none, some (.ireturn, 1), some (.aload_n 0, 1), some (.invokevirtual 62, 3), none, none, some (.aload_n 0, 1), some (.getfield 12, 3), none, none, some (.invokevirtual 113, 3), none, none, some (.aload_n 0, 1), some (.getfield 12, 3), none, none, some (.iconst 1, 1), some (.putfield 59, 3), none, none, some (.aload_n 0, 1), some (.getfield 12, 3), none, none, some (.getfield 56, 3), none, none, some (.ireturn, 1)]
def tb_43 : List (Option (Instr × Nat)) := [some (.aload_n 0, 1), some (.getfield 12, 3), none, none, some (.getfield 59, 3), none, none, some (.ifCond .ne 6, 3), none, none, some (.bipush (-4), 2), none, some (.ireturn, 1), some (.aload_n 0, 1), some (.getfield 12, 3), none, none, some (.getfield 116, 3), none, none, some (.istore_n 1, 1), some (.aload_n 0, 1), some (.invokevirtual 62, 3), none, none, some (.aload_n 0, 1), some (.getfield 12, 3), none, none, some (.invokevirtual 113, 3), none, none, some (.iload_n 1, 1), some (.ireturn, 1)]
def tb_44 : List (Option (Instr × Nat)) := [some (.aload_n 0, 1), some (.getfield 12, 3), none, none, some (.iload_n 1, 1), some (.invokevirtual 48, 3), none, none, some (.ifCond .ne 5, 3), none, none, some (.iconst (-1), 1), some (.ireturn, 1), some (.aload_n 0, 1), some (.getfield 12, 3), none, none, some (.getfield 59, 3), none, none, some (.ifCond .ne 6, 3), none, none, some (.bipush (-4), 2), none, some (.ireturn, 1), some (.aload_n 0, 1), some (.getfield 12, 3), none, none, some (.iload_n 1, 1), some (.invokevirtual 119, 3), none, none, some (.ifCond .eq 6, 3), none, none, some (.bipush (-5), 2), none, some (.ireturn, 1), some (.aload_n 0, 1), some (.getfield 12, 3), none, none, some (.iload_n 1, 1), some (.invokevirtual 122, 3), none, none, some (.ifCond .ne 6, 3), none, none, some (.bipush (-4), 2), none, some (.ireturn, 1), some (.aload_n 0, 1), some (.invokevirtual 62, 3), none, none, some (.aload_n 0, 1), some (.getfield 12, 3), none, none, some (.iload_n 1, 1), some (.invokevirtual 125, 3), none, none, some (.aload_n 0, 1), some (.getfield 12, 3), none, none, some (.iconst 4, 1), some (.aload_n 0, 1), some (.getfield 12, 3), none, none, some (.getfield 129, 3), none, none, some (.iload_n 1, 1), some (.iaload, 1), some (.iadd, 1), some (.invokevirtual 132, 3), none, none, some (.aload_n 0, 1), some (.getfield 12, 3), none, none, some (.getfield 135, 3), none, none, some (.invokestatic 138, 3), none, none, some (.ireturn, 1)]
def tb_45 : List (Option (Instr × Nat)) := [some (.aload_n 0, 1), some (.getfield 12, 3), none, none, some (.iload_n 1, 1), some (.invokevirtual 48, 3), none, none, some (.ifCond .ne 5, 3), none, none, some (.iconst (-1), 1), some (.ireturn, 1), some (.aload_n 0, 1), some (.getfield 12, 3), none, none, some (.getfield 59, 3), none, none, some (.ifCond .ne 6, 3), none, none, some (.bipush (-4), 2), none, some (.ireturn, 1), some (.aload_n 0, 1), some (.getfield 12, 3), none, none, some (.iload_n 1, 1), some (.invokevirtual 119, 3), none, none, some (.ifCond .ne 6, 3), none, none, some (.bipush (-5), 2), none, some (.ireturn, 1), some (.aload_n 0, 1), some (.getfield 12, 3), none, none, some (.iload_n 1, 1), some (.invokevirtual 144, 3), none, none, some (.ifCond .ne 6, 3), none, none, some (.bipush (-4), 2), none, some (.ireturn, 1), some (.aload_n 0, 1), some (.invokevirtual 62, 3), none, none, some (.aload_n 0, 1), some (.getfield 12, 3), none, none, some (.dup, 1), some (.getfield 135, 3), none, none, some (.iload_n 1, 1), some (.invokestatic 147, 3), none, none, some (.iconst (-1), 1), some (.ixor, 1), some (.iand, 1), some (.putfield 135, 3), none, none, some (.aload_n 0, 1), some (.getfield 12, 3), none, none, some (.iconst 4, 1), some (.aload_n 0, 1), some (.getfield 12, 3), none, none, some (.getfield 129, 3), none, none, some (.iload_n 1, 1), some (.iaload, 1), some (.iadd, 1), some (.invokevirtual 132, 3), none, none, some (.aload_n 0, 1), some (.getfield 12, 3), none, none, some (.getfield 135, 3), none, none, some (.invokestatic 138, 3), none, none, some (.ireturn, 1)]
def tb_46 : List (Option (Instr × Nat)) := [some (.aload_n 0, 1), some (.getfield 12, 3), none, none, some (.iload_n 1, 1), some (.invokevirtual 48, 3), none, none, some (.ifCond .ne 5, 3), none, none, some (.iconst (-1), 1), some (.ireturn, 1), some (.aload_n 0, 1), some (.getfield 12, 3), none, none, some (.getfield 59, 3), none, none, some (.ifCond .ne 6, 3), none, none, some (.bipush (-4), 2), none, some (.ireturn, 1), some (.aload_n 0, 1), some (.getfield 12, 3), none, none, some (.iload_n 1, 1), some (.invokevirtual 150, 3), none, none, some (.ifCond .ne 6, 3), none, none, some (.bipush (-5), 2), none, some (.ireturn, 1), some (.aload_n 0, 1), some (.getfield 12, 3), none, none, some (.iload_n 1, 1), some (.invokevirtual 153, 3), none, none, some (.ifCond .ne 6, 3), none, none, some (.bipush (-4), 2), none, some (.ireturn, 1), some (.aload_n 0, 1), some (.invokevirtual 62, 3), none, none, some (.aload_n 0, 1), some (.getfield 12, 3), none, none, some (.getfield 156, 3), none, none, some (.iload_n 1, 1), some (.dup2, 1), some (.iaload, 1), some (.iconst 1, 1), some (.iadd, 1), some (.iastore, 1), some (.aload_n 0, 1), some (.getfield 12, 3), none, none, some (.bipush 10, 2), none, some (.invokevirtual 132, 3), none, none, some (.aload_n 0, 1), some (.getfield 12, 3), none, none, some (.getfield 156, 3), none, none, some (.iload_n 1, 1), some (.iaload, 1), some (.ireturn, 1)]
def tb_47 : List (Option (Instr × Nat)) := [some (.iload_n 1, 1), some (.invokestatic 97, 3), none, none, some (.ifCond .ne 5, 3), none, none, some (.iconst (-1), 1), some (.ireturn, 1), some (.aload_n 0, 1), some (.getfield 12, 3), none, none, some (.getfield 59, 3), none, none, some (.ifCond .ne 6, 3), none, none, some (.bipush (-4), 2), none, some (.ireturn, 1), some (.aload_n 0, 1), some (.getfield 12, 3), none, none, some (.iload_n 1, 1), some (.invokevirtual 159, 3), none, none, some (.ifCond .eq 6, 3), none, none, some (.bipush (-5), 2), none, some (.ireturn, 1), some (.aload_n 0, 1), some (.getfield 12, 3), none, none, some (.iload_n 1, 1), some (.invokevirtual 162, 3), none, none, some (.ifCond .ne 6, 3), none, none, some (.bipush (-4), 2), none, some (.ireturn, 1), some (.aload_n 0, 1), some (.invokevirtual 62, 3), none, none, some (.aload_n 0, 1), some (.getfield 12, 3), none, none, some (.dup, 1), some (.getfield 165, 3), none, none, some (.iload_n 1, 1), some (.invokestatic 147, 3), none, none, some (.ior, 1), some (.putfield 165, 3), none, none, some (.aload_n 0, 1), some (.getfield 12, 3), none, none, some (.iconst 1, 1), some (.invokevirtual 132, 3), none, none, some (.aload_n 0, 1), some (.getfield 12, 3), none, none, some (.getfield 165, 3), none, none, some (.invokestatic 138, 3), none, none, some (.ireturn, 1)]
def tb_48 : List (Option (Instr × Nat)) := [some (.aload_n 0, 1), some (.getfield 12, 3), none, none, some (.iload_n 1, 1), some (.invokevirtual 48, 3), none, none, some (.ifCond .ne 5, 3), none, none, some (.iconst (-1), 1), some (.ireturn, 1), some (.aload_n 0, 1), some (.getfield 12, 3), none, none, some (.getfield 59, 3), none, none, some (.ifCond .ne 6, 3), none, none, some (.bipush (-4), 2), none, some (.ireturn, 1), some (.aload_n 0, 1), some (.getfield 12, 3), none, none, some (.getfield 168, 3), none, none, some (.iload_n 1, 1), some (.invokestatic 171, 3), none, none, some (.ifCond .ne 6, 3), none, none, some (.bipush (-5), 2), none, some (.ireturn, 1), some (.aload_n 0, 1), some (.getfield 12, 3), none, none, some (.iload_n 1, 1), some (.invokevirtual 174, 3), none, none, some (.ifCond .ne 6, 3), none, none, some (.bipush (-4), 2), none, some (.ireturn, 1), some (.aload_n 0, 1), some (.invokevirtual 62, 3), none, none, some (.aload_n 0, 1), some (.getfield 12, 3), none, none, some (.dup, 1), some (.getfield 168, 3), none, none, some (.iload_n 1, 1), some (.invokestatic 147, 3), none, none, some (.iconst (-1), 1), some (.ixor, 1), some (.iand, 1), some (.putfield 168, 3), none, none, some (.aload_n 0, 1), some (.getfield 12, 3), none, none, some (.bipush 12, 2), none, some (.invokevirtual 132, 3), none, none, some (.aload_n 0, 1), some (.getfield 12, 3), none, none, some (.getfield 168, 3), none, none, some (.invokestatic 138, 3), none, none, some (.ireturn, 1)]
def tb_49 : List (Option (Instr × Nat)) := [some (.aload_n 0, 1), some (.getfield 40, 3), none, none, some (.ifCond .gt 6, 3), none, none, some (.bipush (-5), 2), none, some (.ireturn, 1), some (.aload_n 0, 1), some (.dup, 1), some (.getfield 40, 3), none, none, some (.iconst 1, 1), some (.isub, 1), some (.putfield 40, 3), none, none, some (.aload_n 0, 1), some (.getfield 22, 3), none, none, some (.aload_n 0, 1), some (.getfield 40, 3), none, none, some (.aaload, 1), some (.aload_n 0, 1), some (.getfield 12, 3), none, none, some (.invokestatic 184, 3), none, none, some (.aload_n 0, 1), some (.getfield 40, 3), none, none, some (.ireturn, 1)]
def tb_50 : List (Option (Instr × Nat)) := [some (.aload_n 0, 1), some (.getfield 12, 3), none, none, some (.iload_n 1, 1), some (.invokevirtual 48, 3), none, none, some (.ifCond .ne 5, 3), none, none, some (.iconst (-1), 1), some (.ireturn, 1), some (.iload_n 2, 1), some (.tableswitch 175 0 10 #[58, 68, 78, 88, 98, 108, 118, 130, 145, 157, 166], 58), none, none, none, none, none, none, none, none, none, none, none, none, none, none, none, none, none, none, none, none, none, none, none, none, none, none, none, none, none, none, none, none, none, none, none, none, none, none, none, none, none, none, none, none, none, none, none, none, none, none, none, none, none, none, none, none, none, some (.aload_n 0, 1), some (.getfield 12, 3), none, none, some (.getfield 188, 3), none, none, some (.iload_n 1, 1), some (.iaload, 1), some (.ireturn, 1), some (.aload_n 0, 1), some (.getfield 12, 3), none, none, some (.getfield 189, 3), none, none, some (.iload_n 1, 1), some (.iaload, 1), some (.ireturn, 1), some (.aload_n 0, 1), some (.getfield 12, 3), none, none, some (.getfield 190, 3), none, none, some (.iload_n 1, 1), some (.iaload, 1), some (.ireturn, 1), some (.aload_n 0, 1), some (.getfield 12, 3), none, none, some (.getfield 129, 3), none, none, some (.iload_n 1, 1), some (.iaload, 1), some (.ireturn, 1), some (.aload_n 0, 1), some (.getfield 12, 3), none, none, some (.getfield 92, 3), none, none, some (.iload_n 1, 1), some (.iaload, 1), some (.ireturn, 1), some (.aload_n 0, 1), some (.getfield 12, 3), none, none, some (.getfield 156, 3), none, none, some (.iload_n 1, 1), some (.iaload, 1), some (.ireturn, 1), some (.aload_n 0, 1), some (.getfield 12, 3), none, none, some (.iload_n 1, 1), some (.invokevirtual 119, 3), none, none, some (.invokestatic 191, 3), none, none, some (.ireturn, 1), some (.aload_n 0, 1), some (.getfield 12, 3), none, none, some (.getfield 168, 3), none, none, some (.iload_n 1, 1), some (.invokestatic 171, 3), none, none, some (.invokestatic 191, 3), none, none, some (.ireturn, 1), some (.aload_n 0, 1), some (.getfield 12, 3), none, none, some (.iload_n 1, 1), some (.invokevirtual 144, 3), none, none, some (.invokestatic 191, 3), none, none, some (.ireturn, 1), some (.aload_n 0, 1), some (.getfield 12, 3), none, none, some (.iload_n 1, 1), some (.invokevirtual 195, 3), none, none, some (.ireturn, 1), some (.aload_n 0, 1), some (.getfield 12, 3), none, none, some (.iload_n 1, 1), some (.invokevirtual 198, 3), none, none, some (.ireturn, 1), some (.bipush (-2), 2), none, some (.ireturn, 1)]
def tb_51 : List (Option (Instr × Nat)) := [some (.iload_n 1, 1), some (.invokestatic 97, 3), none, none, some (.ifCond .ne 5, 3), none, none, some (.iconst (-1), 1), some (.ireturn, 1), some (.aload_n 0, 1), some (.getfield 12, 3), none, none, some (.iload_n 1, 1), some (.invokevirtual 159, 3), none, none, some (.istore_n 3, 1), some (.iload_n 2, 1), some (.tableswitch 101 0 3 #[29, 48, 66, 71], 29), none, none, none, none, none, none, none, none, none, none, none, none, none, none, none, none, none, none, none, none, none, none, none, none, none, none, none, none, some (.iload_n 3, 1), some (.ifCond .eq 8, 3), none, none, some (.bipush (-5), 2), none, some (.goto 12, 3), none, none, some (.aload_n 0, 1), some (.getfield 12, 3), none, none, some (.getfield 100, 3), none, none, some (.iload_n 1, 1), some (.iaload, 1), some (.ireturn, 1), some (.iload_n 3, 1), some (.ifCond .eq 7, 3), none, none, some (.iconst 0, 1), some (.goto 12, 3), none, none, some (.aload_n 0, 1), some (.getfield 12, 3), none, none, some (.getfield 103, 3), none, none, some (.iload_n 1, 1), some (.iaload, 1), some (.ireturn, 1), some (.iload_n 3, 1), some (.invokestatic 191, 3), none, none, some (.ireturn, 1), some (.aload_n 0, 1), some (.getfield 12, 3), none, none, some (.getfield 59, 3), none, none, some (.ifCond .eq 18, 3), none, none, some (.aload_n 0, 1), some (.getfield 12, 3), none, none, some (.iload_n 1, 1), some (.invokevirtual 162, 3), none, none, some (.ifCond .eq 7, 3), none, none, some (.iconst 1, 1), some (.goto 4, 3), none, none, some (.iconst 0, 1), some (.invokestatic 191, 3), none, none, some (.ireturn, 1), some (.bipush (-2), 2), none, some (.ireturn, 1)]
def tb_52 : List (Option (Instr × Nat)) := [some (.aload_n 0, 1), some (.getfield 12, 3), none, none, some (.iload_n 1, 1), some (.invokevirtual 48, 3), none, none, some (.ifCond .ne 5, 3), none, none, some (.iconst (-1), 1), some (.ireturn, 1), some (.iload_n 2, 1), some (.ifCond .lt 8, 3), none, none, some (.iload_n 2, 1), some (.iconst 4, 1), some (.if_icmp .le 6, 3), none, none, some (.bipush (-2), 2), none, some (.ireturn, 1), some (.aload_n 0, 1), some (.iload_n 1, 1), some (.invokevirtual 201, 3), none, none, some (.ifCond .ne 6, 3), none, none, some (.bipush (-4), 2), none, some (.ireturn, 1), some (.aload_n 0, 1), some (.getfield 29, 3), none, none, some (.aload_n 0, 1), some (.getfield 12, 3), none, none, some (.iload_n 1, 1), some (.invokevirtual 204, 3), none, none, some (.iload_n 2, 1), some (.tableswitch 71 0 3 #[31, 43, 51, 59], 31), none, none, none, none, none, none, none, none, none, none, none, none, none, none, none, none, none, none, none, none, none, none, none, none, none, none, none, none, none, none, some (.aload_n 0, 1), some (.getfield 29, 3), none, none, some (.aload_n 0, 1), some (.getfield 12, 3), none, none, some (.invokevirtual 208, 3), none, none, some (.ireturn, 1), some (.aload_n 0, 1), some (.getfield 29, 3), none, none, some (.getfield 212, 3), none, none, some (.ireturn, 1), some (.aload_n 0, 1), some (.getfield 29, 3), none, none, some (.getfield 215, 3), none, none, some (.ireturn, 1), some (.aload_n 0, 1), some (.getfield 29, 3), none, none, some (.aload_n 0, 1), some (.getfield 12, 3), none, none, some (.invokevirtual 218, 3), none, none, some (.ireturn, 1), some (.aload_n 0, 1), some (.getfield 12, 3), none, none, some (.aload_n 0, 1), some (.getfield 29, 3), none, none, some (.getfield 212, 3), none, none, some (.invokevirtual 221, 3), none, none, some (.ireturn, 1)]
def tb_53 : List (Option (Instr × Nat)) := [some (.aload_n 0, 1), some (.getfield 12, 3), none, none, some (.iload_n 1, 1), some (.invokevirtual 48, 3), none, none, some (.ifCond .ne 5, 3), none, none, some (.iconst (-1), 1), some (.ireturn, 1), some (.aload_n 0, 1), some (.getfield 12, 3), none, none, some (.getfield 59, 3), none, none, some (.ifCond .eq 11, 3), none, none, some (.aload_n 0, 1), some (.iload_n 1, 1), some (.invokevirtual 201, 3), none, none, some (.ifCond .ne 6, 3), none, none, some (.bipush (-4), 2), none, some (.ireturn, 1), some (.aload_n 0, 1), some (.getfield 29, 3), none, none, some (.aload_n 0, 1), some (.getfield 12, 3), none, none, some (.iload_n 1, 1), some (.invokevirtual 204, 3), none, none, some (.aload_n 0, 1), some (.getfield 29, 3), none, none, some (.aload_n 0, 1), some (.getfield 12, 3), none, none, some (.invokevirtual 224, 3), none, none, some (.ireturn, 1)]
def tb_54 : List (Option (Instr × Nat)) := [some (.aload_n 0, 1), some (.getfield 12, 3), none, none, some (.getfield 59, 3), none, none, some (.ifCond .eq 18, 3), none, none, some (.aload_n 0, 1), some (.getfield 12, 3), none, none, some (.getfield 227, 3), none, none, some (.i2d, 1), some (.ldc2_w 230, 3), none, none, some (.ddiv, 1), some (.goto 6, 3), none, none, some (.ldc2_w 232, 3), none, none, some (.dreturn, 1)]
def tb_55 : List (Option (Instr × Nat)) := [some (.aload_n 0, 1), some (.getfield 12, 3), none, none, some (.getfield 59, 3), none, none, some (.ifCond .eq 14, 3), none, none, some (.aload_n 0, 1), some (.invokevirtual 234, 3), none, none, some (.d2f, 1), some (.invokestatic 238, 3), none, none, some (.goto 4, 3), none, none, some (.iconst 0, 1), some (.ireturn, 1)]
def tb_56 : List (Option (Instr × Nat)) := [some (.iload_n 1, 1), some (.tableswitch 172 0 10 #[59, 67, 78, 89, 97, 108, 116, 132, 137, 159, 164], 59), none, none, none, none, none, none, none, none, none, none, none, none, none, none, none, none, none, none, none, none, none, none, none, none, none, none, none, none, none, none, none, none, none, none, none, none, none, none, none, none, none, none, none, none, none, none, none, none, none, none, none, none, none, none, none, none, none, none, some (.aload_n 0, 1), some (.getfield 12, 3), none, none, some (.getfield 56, 3), none, none, some (.ireturn, 1), some (.aload_n 0, 1), some (.getfield 12, 3), none, none, some (.getfield 59, 3), none, none, some (.invokestatic 191, 3), none, none, some (.ireturn, 1), some (.aload_n 0, 1), some (.getfield 12, 3), none, none, some (.getfield 135, 3), none, none, some (.invokestatic 138, 3), none, none, some (.ireturn, 1), some (.aload_n 0, 1), some (.getfield 12, 3), none, none, some (.getfield 165, 3), none, none, some (.ireturn, 1), some (.aload_n 0, 1), some (.getfield 12, 3), none, none, some (.getfield 168, 3), none, none, some (.invokestatic 138, 3), none, none, some (.ireturn, 1), some (.aload_n 0, 1), some (.getfield 12, 3), none, none, some (.getfield 116, 3), none, none, some (.ireturn, 1), some (.aload_n 0, 1), some (.invokevirtual 242, 3), none, none, some (.ifCond .ne 7, 3), none, none, some (.iconst 1, 1), some (.goto 4, 3), none, none, some (.iconst 0, 1), some (.invokestatic 191, 3), none, none, some (.ireturn, 1), some (.aload_n 0, 1), some (.invokevirtual 242, 3), none, none, some (.ireturn, 1), some (.aload_n 0, 1), some (.getfield 12, 3), none, none, some (.getfield 59, 3), none, none, some (.ifCond .eq 13, 3), none, none, some (.aload_n 0, 1), some (.getfield 12, 3), none, none, some (.invokevirtual 245, 3), none, none, some (.goto 4, 3), none, none, some (.iconst 0, 1), some (.ireturn, 1), some (.aload_n 0, 1), some (.getfield 40, 3), none, none, some (.ireturn, 1), some (.aload_n 0, 1), some (.getfield 36, 3), none, none, some (.getfield 181, 3), none, none, some (.ireturn, 1), some (.bipush (-2), 2), none, some (.ireturn, 1)]
def tb_57 : List (Option (Instr × Nat)) := [some (.iload_n 0, 1), some (.tableswitch 65 0 3 #[31, 33, 49, 31], 31), none, none, none, none, none, none, none, none, none, none, none, none, none, none, none, none, none, none, none, none, none, none, none, none, none, none, none, none, none, none, some (.iconst 1, 1), some (.ireturn, 1), some (.iload_n 1, 1), some (.ifCond .lt 13, 3), none, none, some (.iload_n 1, 1), some (.bipush 10, 2), none, some (.if_icmp .ge 7, 3), none, none, some (.iconst 1, 1), some (.goto 4, 3), none, none, some (.iconst 0, 1), some (.ireturn, 1), some (.iload_n 1, 1), some (.ifCond .lt 13, 3), none, none, some (.iload_n 1, 1), some (.bipush 16, 2), none, some (.if_icmp .ge 7, 3), none, none, some (.iconst 1, 1), some (.goto 4, 3), none, none, some (.iconst 0, 1), some (.ireturn, 1), some (.iconst 0, 1), some (.ireturn, 1)]
def tb_58 : List (Option (Instr × Nat)) := [some (.iload_n 0, 1), some (.ifCond .lt 13, 3), none, none, some (.iload_n 0, 1), some (.bipush 12, 2), none, some (.if_icmp .ge 7, 3), none, none, some (.iconst 1, 1), some (.goto 4, 3), none, none, some (.iconst 0, 1), some (.ireturn, 1)]
def tb_59 : List (Option (Instr × Nat)) := [some (.iload_n 0, 1), some (.ifCond .eq 7, 3), none, none, some (.iconst 1, 1), some (.goto 4, 3), none, none, some (.iconst 0, 1), some (.ireturn, 1)]
def tb_60 : List (Option (Instr × Nat)) := [some (.iconst 1, 1), some (.iload_n 0, 1), some (.ishl, 1), some (.ireturn, 1)]
def tb_61 : List (Option (Instr × Nat)) := [some (.iload_n 0, 1), some (.iconst 1, 1), some (.iload_n 1, 1), some (.ishl, 1), some (.iand, 1), some (.ifCond .eq 7, 3), none, none, some (.iconst 1, 1), some (.goto 4, 3), none, none, some (.iconst 0, 1), some (.ireturn, 1)]
def tb_62 : List (Option (Instr × Nat)) := [some (.fload_n 0, 1), some (.fconst 0, 1), some (.fcmp .g, 1), some (.ifCond .gt 5, 3), none, none, some (.iconst 0, 1), some (.ireturn, 1), some (.bipush 127, 2), none, some (.istore_n 1, 1), some (.fload_n 0, 1), some (.fstore_n 2, 1), some (.iconst 0, 1), some (.istore_n 3, 1), some (.iload_n 3, 1), some (.sipush 128, 3), none, none, some (.if_icmp .ge 22, 3), none, none, some (.fload_n 2, 1), some (.fconst 2, 1), some (.fcmp .l, 1), some (.ifCond .lt 16, 3), none, none, some (.fload_n 2, 1), some (.fconst 2, 1), some (.fdiv, 1), some (.fstore_n 2, 1), some (.iinc 1 1, 3), none, none, some (.iinc 3 1, 3), none, none, some (.goto (-23), 3), none, none, some (.iconst 0, 1), some (.istore_n 3, 1), some (.iload_n 3, 1), some (.sipush 128, 3), none, none, some (.if_icmp .ge 22, 3), none, none, some (.fload_n 2, 1), some (.fconst 1, 1), some (.fcmp .g, 1), some (.ifCond .ge 16, 3), none, none, some (.fload_n 2, 1), some (.fconst 2, 1), some (.fmul, 1), some (.fstore_n 2, 1), some (.iinc 1 (-1), 3), none, none, some (.iinc 3 1, 3), none, none, some (.goto (-23), 3), none, none, some (.fload_n 2, 1), some (.fconst 1, 1), some (.fsub, 1), some (.ldc 248, 2), none, some (.fmul, 1), some (.f2i, 1), some (.istore_n 3, 1), some (.iload_n 1, 1), some (.bipush 23, 2), none, some (.ishl, 1), some (.iload_n 3, 1), some (.ior, 1), some (.ireturn, 1)]
def tb_63 : List (Option (Instr × Nat)) := [some (.aload_n 0, 1), some (.getfield 40, 3), none, none, some (.iconst 4, 1), some (.if_icmp .lt 7, 3), none, none, some (.aload_n 0, 1), some (.invokevirtual 249, 3), none, none, some (.aload_n 0, 1), some (.getfield 12, 3), none, none, some (.aload_n 0, 1), some (.getfield 22, 3), none, none, some (.aload_n 0, 1), some (.getfield 40, 3), none, none, some (.aaload, 1), some (.invokestatic 184, 3), none, none, some (.aload_n 0, 1), some (.dup, 1), some (.getfield 40, 3), none, none, some (.iconst 1, 1), some (.iadd, 1), some (.putfield 40, 3), none, none, some (.return_, 1)]
def tb_64 : List (Option (Instr × Nat)) := [some (.aload_n 0, 1), some (.getfield 22, 3), none, none, some (.iconst 0, 1), some (.aaload, 1), some (.astore_n 1, 1), some (.iconst 1, 1), some (.istore_n 2, 1), some (.iload_n 2, 1), some (.iconst 4, 1), some (.if_icmp .ge 23, 3), none, none, some (.aload_n 0, 1), some (.getfield 22, 3), none, none, some (.iload_n 2, 1), some (.iconst 1, 1), some (.isub, 1), some (.aload_n 0, 1), some (.getfield 22, 3), none, none, some (.iload_n 2, 1), some (.aaload, 1), some (.aastore, 1), some (.iinc 2 1, 3), none, none, some (.goto (-22), 3), none, none, some (.aload_n 0, 1), some (.getfield 22, 3), none, none, some (.iconst 3, 1), some (.aload_n 1, 1), some (.aastore, 1), some (.aload_n 0, 1), some (.iconst 3, 1), some (.putfield 40, 3), none, none, some (.return_, 1)]
def tb_65 : List (Option (Instr × Nat)) := [some (.aload_n 0, 1), some (.ifnull 12, 3), none, none, some (.aload_n 1, 1), some (.ifnull 8, 3), none, none, some (.aload_n 1, 1), some (.aload_n 0, 1), some (.invokevirtual 252, 3), none, none, some (.return_, 1)]
def tb_66 : List (Option (Instr × Nat)) := [some (.aload_n 0, 1), some (.getfield 12, 3), none, none, some (.aload_n 0, 1), some (.getfield 19, 3), none, none, some (.invokestatic 184, 3), none, none, some (.aload_n 0, 1), some (.getfield 19, 3), none, none, some (.invokevirtual 256, 3), none, none, some (.aload_n 0, 1), some (.getfield 19, 3), none, none, some (.iload_n 1, 1), some (.invokevirtual 119, 3), none, none, some (.ifCond .eq 18, 3), none, none, some (.aload_n 0, 1), some (.getfield 19, 3), none, none, some (.iload_n 1, 1), some (.invokevirtual 144, 3), none, none, some (.ifCond .eq 7, 3), none, none, some (.iconst 1, 1), some (.goto 4, 3), none, none, some (.iconst 0, 1), some (.ireturn, 1)]
def tb_67 : List (Option (Instr × Nat)) := [some (.aload_n 0, 1), some (.getfield 12, 3), none, none, some (.aload_n 0, 1), some (.getfield 19, 3), none, none, some (.invokestatic 184, 3), none, none, some (.aload_n 0, 1), some (.getfield 19, 3), none, none, some (.invokevirtual 113, 3), none, none, some (.aload_n 0, 1), some (.getfield 19, 3), none, none, some (.invokevirtual 256, 3), none, none, some (.aload_n 0, 1), some (.getfield 19, 3), none, none, some (.getfield 56, 3), none, none, some (.invokestatic 147, 3), none, none, some (.iconst 1, 1), some (.isub, 1), some (.aload_n 0, 1), some (.getfield 19, 3), none, none, some (.getfield 135, 3), none, none, some (.iconst (-1), 1), some (.ixor, 1), some (.iand, 1), some (.ireturn, 1)]
def tb_68 : List (Option (Instr × Nat)) := [some (.iload_n 0, 1), some (.iload_n 0, 1), some (.iconst 1, 1), some (.iushr, 1), some (.ldc_w 265, 3), none, none, some (.iand, 1), some (.isub, 1), some (.istore_n 0, 1), some (.iload_n 0, 1), some (.ldc_w 266, 3), none, none, some (.iand, 1), some (.iload_n 0, 1), some (.iconst 2, 1), some (.iushr, 1), some (.ldc_w 266, 3), none, none, some (.iand, 1), some (.iadd, 1), some (.istore_n 0, 1), some (.iload_n 0, 1), some (.iload_n 0, 1), some (.iconst 4, 1), some (.iushr, 1), some (.iadd, 1), some (.ldc_w 267, 3), none, none, some (.iand, 1), some (.istore_n 0, 1), some (.iload_n 0, 1), some (.iload_n 0, 1), some (.bipush 8, 2), none, some (.iushr, 1), some (.iadd, 1), some (.istore_n 0, 1), some (.iload_n 0, 1), some (.iload_n 0, 1), some (.bipush 16, 2), none, some (.iushr, 1), some (.iadd, 1), some (.istore_n 0, 1), some (.iload_n 0, 1), some (.bipush 63, 2), none, some (.iand, 1), some (.ireturn, 1)]
def tb_69 : List (Option (Instr × Nat)) := [some (.iload_n 0, 1), some (.iload_n 1, 1), some (.if_icmp .lt 7, 3), none, none, some (.iload_n 0, 1), some (.goto 4, 3), none, none, some (.iload_n 1, 1), some (.ireturn, 1)]
def tb_70 : List (Option (Instr × Nat)) := [some (.iload_n 1, 1), some (.aload_n 0, 1), some (.arraylength, 1), some (.if_icmp .ge 9, 3), none, none, some (.aload_n 0, 1), some (.iload_n 1, 1), some (.iaload, 1), some (.goto 11, 3), none, none, some (.ldc 7, 2), none, some (.iload_n 1, 1), some (.imul, 1), some (.sipush 1309, 3), none, none, some (.iadd, 1), some (.ldc 8, 2), none, some (.iand, 1), some (.ireturn, 1)]
def tb_71 : List (Option (Instr × Nat)) := [some (.iconst 0, 1), some (.istore_n 1, 1), some (.iconst 0, 1), some (.istore_n 2, 1), some (.iload_n 2, 1), some (.bipush 16, 2), none, some (.if_icmp .ge 17, 3), none, none, some (.iload_n 1, 1), some (.iload_n 0, 1), some (.iload_n 2, 1), some (.ishr, 1), some (.iconst 1, 1), some (.iand, 1), some (.iadd, 1), some (.istore_n 1, 1), some (.iinc 2 1, 3), none, none, some (.goto (-17), 3), none, none, some (.iload_n 1, 1), some (.ireturn, 1)]
def tb_72 : List (Option (Instr × Nat)) := [some (.aload_n 0, 1), some (.iload_n 1, 1), some (.iconst 0, 1), some (.invokevirtual 9, 3), none, none, some (.istore_n 2, 1), some (.iload_n 2, 1), some (.ifCond .ge 36, 3), none, none, some (.iload_n 2, 1), some (.bipush (-4), 2), none, some (.if_icmp .ne 28, 3), none, none, some (.aload_n 0, 1), some (.iload_n 1, 1), some (.iconst 1, 1), some (.invokevirtual 9, 3), none, none, some (.bipush (-4), 2), none, some (.if_icmp .ne 17, 3), none, none, some (.aload_n 0, 1), some (.iload_n 1, 1), some (.invokevirtual 15, 3), none, none, some (.bipush (-4), 2), none, some (.if_icmp .ne 7, 3), none, none, some (.iconst 1, 1), some (.goto 4, 3), none, none, some (.iconst 0, 1), some (.ireturn, 1), some (.aload_n 0, 1), some (.iload_n 1, 1), some (.iconst 1, 1), some (.invokevirtual 9, 3), none, none, some (.istore_n 3, 1), some (.aload_n 0, 1), some (.iload_n 1, 1), some (.iconst 2, 1), some (.invokevirtual 9, 3), none, none, some (.istore 4, 2), none, some (.iload_n 2, 1), some (.iload_n 3, 1), some (.invokestatic 19, 3), none, none, some (.iload 4, 2), none, some (.invokestatic 19, 3), none, none, some (.iadd, 1), some (.aload_n 0, 1), some (.iload_n 1, 1), some (.iconst 3, 1), some (.invokevirtual 9, 3), none, none, some (.iadd, 1), some (.if_icmp .ne 31, 3), none, none, some (.aload_n 0, 1), some (.iload_n 1, 1), some (.iconst 4, 1), some (.invokevirtual 9, 3), none, none, some (.iload_n 3, 1), some (.invokestatic 19, 3), none, none, some (.if_icmp .gt 18, 3), none, none, some (.iload 4, 2), none, some (.aload_n 0, 1), some (.iconst 3, 1), some (.invokevirtual 24, 3), none, none, some (.iand, 1), some (.ifCond .ne 7, 3), none, none, some (.iconst 1, 1), some (.goto 4, 3), none, none, some (.iconst 0, 1), some (.istore 5, 2), none, some (.iload 5, 2), none, some (.ifCond .eq 41, 3), none, none, some (.aload_n 0, 1), some (.iload_n 1, 1), some (.iconst 3, 1), some (.invokevirtual 9, 3), none, none, some (.ifCond .eq 28, 3), none, none, some (.aload_n 0, 1), some (.iconst 3, 1), some (.invokevirtual 24, 3), none, none, some (.bipush 10, 2), none, some (.ishr, 1), some (.iconst 1, 1), some (.iand, 1), some (.iconst 1, 1), some (.if_icmp .eq 14, 3), none, none, some (.iload 4, 2), none, some (.bipush 10, 2), none, some (.ishr, 1), some (.iconst 1, 1), some (.iand, 1), some (.iconst 1, 1), some (.if_icmp .ne 7, 3), none, none, some (.iconst 1, 1), some (.goto 4, 3), none, none, some (.iconst 0, 1), some (.istore 5, 2), none, some (.iconst 0, 1), some (.istore 6, 2), none, some (.iload 6, 2), none, some (.aload_n 0, 1), some (.iconst 0, 1), some (.invokevirtual 24, 3), none, none, some (.if_icmp .ge 215, 3), none, none, some (.iload 5, 2), none, some (.ifCond .eq 210, 3), none, none, some (.iload_n 3, 1), some (.iload 6, 2), none, some (.ishr, 1), some (.iconst 1, 1), some (.iand, 1), some (.ifCond .eq 14, 3), none, none, some (.aload_n 0, 1), some (.iload 6, 2), none, some (.bipush 6, 2), none, some (.invokevirtual 27, 3), none, none, some (.ifCond .ne 7, 3), none, none, some (.iconst 1, 1), some (.goto 4, 3), none, none, some (.iconst 0, 1), some (.istore 5, 2), none, some (.aload_n 0, 1), some (.iload 6, 2), none, some (.iconst 0, 1), some (.invokevirtual 27, 3), none, none, some (.istore 7, 2), none, some (.iload 5, 2), none, some (.ifCond .eq 43, 3), none, none, some (.iload_n 3, 1), some (.iload 6, 2), none, some (.ishr, 1), some (.iconst 1, 1), some (.iand, 1), some (.ifCond .eq 30, 3), none, none, some (.iload 7, 2), none, some (.ifCond .lt 25, 3), none, none, some (.aload_n 0, 1), some (.iload 7, 2), none, some (.bipush 6, 2), none, some (.invokevirtual 27, 3), none, none, some (.iconst 1, 1), some (.if_icmp .eq 13, 3), none, none, some (.iload_n 3, 1), some (.iload 7, 2), none, some (.ishr, 1), some (.iconst 1, 1), some (.iand, 1), some (.iconst 1, 1), some (.if_icmp .ne 7, 3), none, none, some (.iconst 1, 1), some (.goto 4, 3), none, none, some (.iconst 0, 1), some (.istore 5, 2), none, some (.aload_n 0, 1), some (.iload 6, 2), none, some (.iconst 2, 1), some (.invokevirtual 27, 3), none, none, some (.istore 8, 2), none, some (.iload 5, 2), none, some (.ifCond .eq 49, 3), none, none, some (.iload_n 3, 1), some (.iload 6, 2), none, some (.ishr, 1), some (.iconst 1, 1), some (.iand, 1), some (.ifCond .eq 36, 3), none, none, some (.aload_n 0, 1), some (.iload 6, 2), none, some (.iconst 1, 1), some (.invokevirtual 27, 3), none, none, some (.iconst 1, 1), some (.if_icmp .ne 25, 3), none, none, some (.aload_n 0, 1), some (.iload 8, 2), none, some (.iconst 2, 1), some (.invokevirtual 30, 3), none, none, some (.iconst 1, 1), some (.if_icmp .eq 14, 3), none, none, some (.iload 4, 2), none, some (.iload 8, 2), none, some (.ishr, 1), some (.iconst 1, 1), some (.iand, 1), some (.iconst 1, 1), some (.if_icmp .ne 7, 3), none, none, some (.iconst 1, 1), some (.goto 4, 3), none, none, some (.iconst 0, 1), some (.istore 5, 2), none, some (.iload 5, 2), none, some (.ifCond .eq 49, 3), none, none, some (.iload_n 3, 1), some (.iload 6, 2), none, some (.ishr, 1), some (.iconst 1, 1), some (.iand, 1), some (.ifCond .eq 36, 3), none, none, some (.aload_n 0, 1), some (.iload 6, 2), none, some (.iconst 1, 1), some (.invokevirtual 27, 3), none, none, some (.iconst 2, 1), some (.if_icmp .ne 25, 3), none, none, some (.aload_n 0, 1), some (.iload 8, 2), none, some (.bipush 6, 2), none, some (.invokevirtual 27, 3), none, none, some (.iconst 1, 1), some (.if_icmp .eq 13, 3), none, none, some (.iload_n 3, 1), some (.iload 8, 2), none, some (.ishr, 1), some (.iconst 1, 1), some (.iand, 1), some (.iconst 1, 1), some (.if_icmp .ne 7, 3), none, none, some (.iconst 1, 1), some (.goto 4, 3), none, none, some (.iconst 0, 1), some (.istore 5, 2), none, some (.iinc 6 1, 3), none, none, some (.goto (-219), 3), none, none, some (.iload 5, 2), none, some (.ifCond .eq 58, 3), none, none, some (.aload_n 0, 1), some (.iload_n 1, 1), some (.bipush 6, 2), none, some (.invokevirtual 27, 3), none, none, some (.iconst 1, 1), some (.if_icmp .ne 34, 3), none, none, some (.iload_n 2, 1), some (.ifCond .ne 7, 3), none, none, some (.iconst 1, 1), some (.goto 4, 3), none, none, some (.iconst 0, 1), some (.aload_n 0, 1), some (.iload_n 1, 1), some (.bipush 8, 2), none, some (.invokevirtual 27, 3), none, none, some (.iconst 1, 1), some (.if_icmp .ne 7, 3), none, none, some (.iconst 1, 1), some (.goto 4, 3), none, none, some (.iconst 0, 1), some (.if_icmp .ne 19, 3), none, none, some (.goto 12, 3), none, none, some (.iload_n 3, 1), some (.iload_n 1, 1), some (.ishr, 1), some (.iconst 1, 1), some (.iand, 1), some (.iconst 1, 1), some (.if_icmp .ne 7, 3), none, none, some (.iconst 1, 1), some (.goto 4, 3), none, none, some (.iconst 0, 1), some (.ireturn, 1)]
def tb_73 : List (Option (Instr × Nat)) := [some (.aload_n 0, 1), some (.iload_n 1, 1), some (.iconst 0, 1), some (.invokevirtual 9, 3), none, none, some (.istore_n 2, 1), some (.aload_n 0, 1), some (.iload_n 1, 1), some (.invokevirtual 15, 3), none, none, some (.istore_n 3, 1), some (.aload_n 0, 1), some (.iconst 5, 1), some (.invokevirtual 24, 3), none, none, some (.istore 4, 2), none, some (.aload_n 0, 1), some (.invokevirtual 33, 3), none, none, some (.dstore 5, 2), none, some (.iload_n 2, 1), some (.ifCond .gt 24, 3), none, none, some (.iload_n 3, 1), some (.iload_n 2, 1), some (.ifCond .ne 8, 3), none, none, some (.bipush (-5), 2), none, some (.goto 5, 3), none, none, some (.bipush (-4), 2), none, some (.if_icmp .ne 7, 3), none, none, some (.iconst 1, 1), some (.goto 4, 3), none, none, some (.iconst 0, 1), some (.ireturn, 1), some (.iload_n 3, 1), some (.bipush 100, 2), none, some (.irem, 1), some (.istore 7, 2), none, some (.iload_n 3, 1), some (.bipush 100, 2), none, some (.if_icmp .lt 14, 3), none, none, some (.iload_n 3, 1), some (.sipush 400, 3), none, none, some (.if_icmp .ge 7, 3), none, none, some (.iconst 1, 1), some (.goto 4, 3), none, none, some (.iconst 0, 1), some (.istore 8, 2), none, some (.iload 8, 2), none, some (.ifCond .eq 133, 3), none, none, some (.iload_n 3, 1), some (.sipush 200, 3), none, none, some (.if_icmp .ge 55, 3), none, none, some (.aload_n 0, 1), some (.bipush 8, 2), none, some (.invokevirtual 24, 3), none, none, some (.iload 7, 2), none, some (.ishr, 1), some (.iconst 1, 1), some (.iand, 1), some (.iconst 1, 1), some (.if_icmp .ne 111, 3), none, none, some (.aload_n 0, 1), some (.iload 7, 2), none, some (.invokevirtual 37, 3), none, none, some (.ifCond .le 102, 3), none, none, some (.aload_n 0, 1), some (.invokevirtual 33, 3), none, none, some (.dload 5, 2), none, some (.dconst 1, 1), some (.aload_n 0, 1), some (.iload 7, 2), none, some (.iconst 3, 1), some (.invokevirtual 27, 3), none, none, some (.i2d, 1), some (.ldc2_w 40, 3), none, none, some (.ddiv, 1), some (.dadd, 1), some (.dadd, 1), some (.dcmp .l, 1), some (.ifCond .ne 77, 3), none, none, some (.goto 70, 3), none, none, some (.iload_n 3, 1), some (.sipush 300, 3), none, none, some (.if_icmp .ge 40, 3), none, none, some (.aload_n 0, 1), some (.iload 7, 2), none, some (.iconst 3, 1), some (.invokevirtual 30, 3), none, none, some (.iconst 1, 1), some (.if_icmp .ne 56, 3), none, none, some (.aload_n 0, 1), some (.iload 7, 2), none, some (.invokevirtual 42, 3), none, none, some (.ifCond .le 47, 3), none, none, some (.aload_n 0, 1), some (.invokevirtual 33, 3), none, none, some (.dload 5, 2), none, some (.ldc2_w 45, 3), none, none, some (.dadd, 1), some (.dcmp .l, 1), some (.ifCond .ne 33, 3), none, none, some (.goto 26, 3), none, none, some (.aload_n 0, 1), some (.iload 7, 2), none, some (.invokevirtual 47, 3), none, none, some (.ifCond .le 21, 3), none, none, some (.aload_n 0, 1), some (.invokevirtual 33, 3), none, none, some (.dload 5, 2), none, some (.ldc2_w 50, 3), none, none, some (.dadd, 1), some (.dcmp .l, 1), some (.ifCond .ne 7, 3), none, none, some (.iconst 1, 1), some (.goto 4, 3), none, none, some (.iconst 0, 1), some (.istore 8, 2), none, some (.iload 8, 2), none, some (.ifCond .eq 31, 3), none, none, some (.aload_n 0, 1), some (.iload_n 1, 1), some (.iconst 0, 1), some (.invokevirtual 9, 3), none, none, some (.iload_n 2, 1), some (.iconst 1, 1), some (.isub, 1), some (.if_icmp .ne 19, 3), none, none, some (.aload_n 0, 1), some (.iconst 5, 1), some (.invokevirtual 24, 3), none, none, some (.iload 4, 2), none, some (.iconst 1, 1), some (.iadd, 1), some (.if_icmp .ne 7, 3), none, none, some (.iconst 1, 1), some (.goto 4, 3), none, none, some (.iconst 0, 1), some (.ireturn, 1)]
def tb_74 : List (Option (Instr × Nat)) := [some (.iconst 2, 1), some (.aload_n 1, 1), some (.iconst 0, 1), some (.invokestatic 52, 3), none, none, some (.bipush 8, 2), none, some (.irem, 1), some (.iadd, 1), some (.istore_n 2, 1), some (.iconst 1, 1), some (.istore_n 3, 1), some (.iconst 0, 1), some (.istore 4, 2), none, some (.iload 4, 2), none, some (.iload_n 2, 1), some (.if_icmp .ge 135, 3), none, none, some (.iload_n 3, 1), some (.ifCond .eq 131, 3), none, none, some (.aload_n 1, 1), some (.iconst 1, 1), some (.iload 4, 2), none, some (.iadd, 1), some (.invokestatic 52, 3), none, none, some (.istore 5, 2), none, some (.iload 4, 2), none, some (.ifCond .eq 10, 3), none, none, some (.iload 5, 2), none, some (.iconst 3, 1), some (.irem, 1), some (.ifCond .le 8, 3), none, none, some (.bipush (-5), 2), none, some (.goto 10, 3), none, none, some (.iload 5, 2), none, some (.iconst 2, 1), some (.ishr, 1), some (.iload 4, 2), none, some (.irem, 1), some (.istore 6, 2), none, some (.iload 5, 2), none, some (.bipush 6, 2), none, some (.ishr, 1), some (.iconst 4, 1), some (.irem, 1), some (.istore 7, 2), none, some (.aload_n 0, 1), some (.iload 6, 2), none, some (.iload 7, 2), none, some (.iload 7, 2), none, some (.iconst 2, 1), some (.if_icmp .ne 13, 3), none, none, some (.iload 5, 2), none, some (.bipush 8, 2), none, some (.ishr, 1), some (.iload_n 2, 1), some (.irem, 1), some (.goto 11, 3), none, none, some (.iload 5, 2), none, some (.bipush 8, 2), none, some (.ishr, 1), some (.bipush 10, 2), none, some (.irem, 1), some (.iload 5, 2), none, some (.bipush 12, 2), none, some (.ishr, 1), some (.bipush 10, 2), none, some (.irem, 1), some (.invokevirtual 56, 3), none, none, some (.iload 4, 2), none, some (.if_icmp .ne 33, 3), none, none, some (.iload 5, 2), none, some (.bipush 16, 2), none, some (.ishr, 1), some (.iconst 4, 1), some (.irem, 1), some (.ifCond .eq 19, 3), none, none, some (.aload_n 0, 1), some (.iload 4, 2), none, some (.iload 5, 2), none, some (.bipush 16, 2), none, some (.ishr, 1), some (.iconst 4, 1), some (.irem, 1), some (.invokevirtual 60, 3), none, none, some (.ifCond .ne 7, 3), none, none, some (.iconst 1, 1), some (.goto 4, 3), none, none, some (.iconst 0, 1), some (.istore_n 3, 1), some (.iinc 4 1, 3), none, none, some (.goto (-135), 3), none, none, some (.iconst 0, 1), some (.istore 4, 2), none, some (.iload 4, 2), none, some (.bipush 12, 2), none, some (.if_icmp .ge 114, 3), none, none, some (.iload_n 3, 1), some (.ifCond .eq 110, 3), none, none, some (.aload_n 1, 1), some (.bipush 11, 2), none, some (.iload 4, 2), none, some (.iadd, 1), some (.invokestatic 52, 3), none, none, some (.istore 5, 2), none, some (.iload 5, 2), none, some (.iconst 2, 1), some (.ishr, 1), some (.iload_n 2, 1), some (.irem, 1), some (.istore 6, 2), none, some (.iload 5, 2), none, some (.bipush 8, 2), none, some (.ishr, 1), some (.aload_n 0, 1), some (.iload 6, 2), none, some (.iconst 4, 1), some (.invokevirtual 27, 3), none, none, some (.iconst 1, 1), some (.iadd, 1), some (.irem, 1), some (.istore 7, 2), none, some (.iload 5, 2), none, some (.iconst 4, 1), some (.irem, 1), some (.ifCond .eq 55, 3), none, none, some (.aload_n 0, 1), some (.iload 4, 2), none, some (.iload 6, 2), none, some (.iload 7, 2), none, some (.invokevirtual 63, 3), none, none, some (.ifCond .le 46, 3), none, none, some (.aload_n 0, 1), some (.iload 4, 2), none, some (.iconst 0, 1), some (.invokevirtual 30, 3), none, none, some (.iload 6, 2), none, some (.if_icmp .ne 34, 3), none, none, some (.aload_n 0, 1), some (.iload 4, 2), none, some (.iconst 1, 1), some (.invokevirtual 30, 3), none, none, some (.iload 7, 2), none, some (.if_icmp .ne 22, 3), none, none, some (.aload_n 0, 1), some (.iload 4, 2), none, some (.iload 6, 2), none, some (.iload 7, 2), none, some (.invokevirtual 63, 3), none, none, some (.bipush (-5), 2), none, some (.if_icmp .ne 7, 3), none, none, some (.iconst 1, 1), some (.goto 4, 3), none, none, some (.iconst 0, 1), some (.istore_n 3, 1), some (.iinc 4 1, 3), none, none, some (.goto (-115), 3), none, none, some (.iload_n 3, 1), some (.ireturn, 1)]
def tb_75 : List (Option (Instr × Nat)) := [some (.iconst 0, 1), some (.istore_n 1, 1), some (.iconst 0, 1), some (.istore_n 2, 1), some (.iconst 0, 1), some (.istore_n 3, 1), some (.iconst 0, 1), some (.istore 4, 2), none, some (.iconst 1, 1), some (.istore 5, 2), none, some (.iconst 0, 1), some (.istore 6, 2), none, some (.iload 6, 2), none, some (.aload_n 0, 1), some (.iconst 0, 1), some (.invokevirtual 24, 3), none, none, some (.if_icmp .ge 188, 3), none, none, some (.iload 5, 2), none, some (.ifCond .eq 183, 3), none, none, some (.iload_n 1, 1), some (.aload_n 0, 1), some (.iload 6, 2), none, some (.bipush 6, 2), none, some (.invokevirtual 27, 3), none, none, some (.iadd, 1), some (.istore_n 1, 1), some (.iload_n 2, 1), some (.aload_n 0, 1), some (.iload 6, 2), none, some (.bipush 7, 2), none, some (.invokevirtual 27, 3), none, none, some (.iadd, 1), some (.istore_n 2, 1), some (.iload_n 3, 1), some (.aload_n 0, 1), some (.iload 6, 2), none, some (.bipush 9, 2), none, some (.invokevirtual 27, 3), none, none, some (.iadd, 1), some (.istore_n 3, 1), some (.aload_n 0, 1), some (.iload 6, 2), none, some (.iconst 0, 1), some (.invokevirtual 27, 3), none, none, some (.istore 7, 2), none, some (.aload_n 0, 1), some (.iload 6, 2), none, some (.bipush 8, 2), none, some (.invokevirtual 27, 3), none, none, some (.iload 7, 2), none, some (.bipush (-5), 2), none, some (.if_icmp .ne 7, 3), none, none, some (.iconst 1, 1), some (.goto 20, 3), none, none, some (.aload_n 0, 1), some (.iload 7, 2), none, some (.bipush 6, 2), none, some (.invokevirtual 27, 3), none, none, some (.aload_n 0, 1), some (.iload 7, 2), none, some (.bipush 8, 2), none, some (.invokevirtual 27, 3), none, none, some (.imul, 1), some (.if_icmp .ne 93, 3), none, none, some (.aload_n 0, 1), some (.iload 6, 2), none, some (.bipush 10, 2), none, some (.invokevirtual 27, 3), none, none, some (.iload 7, 2), none, some (.bipush (-5), 2), none, some (.if_icmp .ne 7, 3), none, none, some (.iconst 0, 1), some (.goto 13, 3), none, none, some (.iconst 1, 1), some (.aload_n 0, 1), some (.iload 7, 2), none, some (.bipush 10, 2), none, some (.invokevirtual 27, 3), none, none, some (.iadd, 1), some (.if_icmp .ne 61, 3), none, none, some (.aload_n 0, 1), some (.iload 6, 2), none, some (.iconst 5, 1), some (.invokevirtual 27, 3), none, none, some (.aload_n 0, 1), some (.iload 6, 2), none, some (.iconst 4, 1), some (.invokevirtual 27, 3), none, none, some (.if_icmp .gt 44, 3), none, none, some (.aload_n 0, 1), some (.bipush 8, 2), none, some (.invokevirtual 24, 3), none, none, some (.iload 6, 2), none, some (.ishr, 1), some (.iconst 1, 1), some (.iand, 1), some (.ifCond .eq 26, 3), none, none, some (.aload_n 0, 1), some (.iload 6, 2), none, some (.bipush 6, 2), none, some (.invokevirtual 27, 3), none, none, some (.ifCond .ne 19, 3), none, none, some (.aload_n 0, 1), some (.iload 6, 2), none, some (.bipush 8, 2), none, some (.invokevirtual 27, 3), none, none, some (.iconst 1, 1), some (.if_icmp .ne 7, 3), none, none, some (.iconst 1, 1), some (.goto 4, 3), none, none, some (.iconst 0, 1), some (.istore 5, 2), none, some (.iinc 6 1, 3), none, none, some (.goto (-192), 3), none, none, some (.iconst 0, 1), some (.istore 6, 2), none, some (.iload 6, 2), none, some (.bipush 12, 2), none, some (.if_icmp .ge 42, 3), none, none, some (.iload_n 3, 1), some (.aload_n 0, 1), some (.iload 6, 2), none, some (.iconst 0, 1), some (.invokevirtual 30, 3), none, none, some (.ifCond .lt 7, 3), none, none, some (.iconst 1, 1), some (.goto 4, 3), none, none, some (.iconst 0, 1), some (.isub, 1), some (.istore_n 3, 1), some (.iload 4, 2), none, some (.aload_n 0, 1), some (.iload 6, 2), none, some (.iconst 2, 1), some (.invokevirtual 30, 3), none, none, some (.iload 6, 2), none, some (.ishl, 1), some (.ior, 1), some (.istore 4, 2), none, some (.iinc 6 1, 3), none, none, some (.goto (-43), 3), none, none, some (.iload 5, 2), none, some (.ifCond .eq 39, 3), none, none, some (.iload_n 1, 1), some (.aload_n 0, 1), some (.iconst 2, 1), some (.invokevirtual 24, 3), none, none, some (.if_icmp .ne 30, 3), none, none, some (.iload_n 2, 1), some (.aload_n 0, 1), some (.iconst 4, 1), some (.invokevirtual 24, 3), none, none, some (.if_icmp .ne 21, 3), none, none, some (.iload_n 3, 1), some (.ifCond .ne 17, 3), none, none, some (.iload 4, 2), none, some (.aload_n 0, 1), some (.iconst 3, 1), some (.invokevirtual 24, 3), none, none, some (.if_icmp .ne 7, 3), none, none, some (.iconst 1, 1), some (.goto 4, 3), none, none, some (.iconst 0, 1), some (.ireturn, 1)]
def tb_76 : List (Option (Instr × Nat)) := [some (.iload_n 1, 1), some (.iconst 3, 1), some (.ishr, 1), some (.aload_n 0, 1), some (.iconst 0, 1), some (.invokevirtual 24, 3), none, none, some (.irem, 1), some (.istore_n 2, 1), some (.aload_n 0, 1), some (.iconst 2, 1), some (.invokevirtual 24, 3), none, none, some (.istore_n 3, 1), some (.aload_n 0, 1), some (.iload_n 2, 1), some (.bipush 8, 2), none, some (.invokevirtual 27, 3), none, none, some (.iconst 1, 1), some (.if_icmp .ne 7, 3), none, none, some (.iconst 1, 1), some (.goto 4, 3), none, none, some (.iconst 0, 1), some (.istore 4, 2), none, some (.aload_n 0, 1), some (.iload_n 2, 1), some (.bipush 6, 2), none, some (.invokevirtual 27, 3), none, none, some (.iconst 1, 1), some (.if_icmp .ne 7, 3), none, none, some (.iconst 1, 1), some (.goto 4, 3), none, none, some (.iconst 0, 1), some (.istore 5, 2), none, some (.iload_n 1, 1), some (.iconst 3, 1), some (.irem, 1), some (.ifCond .ne 44, 3), none, none, some (.aload_n 0, 1), some (.iload_n 2, 1), some (.invokevirtual 67, 3), none, none, some (.istore 6, 2), none, some (.iload 6, 2), none, some (.iload 5, 2), none, some (.ifCond .ne 8, 3), none, none, some (.bipush (-5), 2), none, some (.goto 16, 3), none, none, some (.iload 4, 2), none, some (.ifCond .ne 8, 3), none, none, some (.bipush (-4), 2), none, some (.goto 6, 3), none, none, some (.iload_n 3, 1), some (.iconst 1, 1), some (.isub, 1), some (.if_icmp .ne 7, 3), none, none, some (.iconst 1, 1), some (.goto 4, 3), none, none, some (.iconst 0, 1), some (.ireturn, 1), some (.iload_n 1, 1), some (.iconst 3, 1), some (.irem, 1), some (.iconst 1, 1), some (.if_icmp .ne 88, 3), none, none, some (.aload_n 0, 1), some (.iconst 4, 1), some (.invokevirtual 24, 3), none, none, some (.istore 6, 2), none, some (.aload_n 0, 1), some (.iload_n 2, 1), some (.bipush 7, 2), none, some (.invokevirtual 27, 3), none, none, some (.iconst 1, 1), some (.if_icmp .ne 7, 3), none, none, some (.iconst 1, 1), some (.goto 4, 3), none, none, some (.iconst 0, 1), some (.istore 7, 2), none, some (.aload_n 0, 1), some (.iload_n 2, 1), some (.invokevirtual 70, 3), none, none, some (.istore 8, 2), none, some (.iload 8, 2), none, some (.iload 7, 2), none, some (.ifCond .ne 8, 3), none, none, some (.bipush (-5), 2), none, some (.goto 35, 3), none, none, some (.iload 5, 2), none, some (.ifCond .ne 21, 3), none, none, some (.iload 4, 2), none, some (.ifCond .eq 16, 3), none, none, some (.aload_n 0, 1), some (.iconst 3, 1), some (.invokevirtual 24, 3), none, none, some (.bipush 11, 2), none, some (.ishr, 1), some (.iconst 1, 1), some (.iand, 1), some (.ifCond .ne 8, 3), none, none, some (.bipush (-4), 2), none, some (.goto 7, 3), none, none, some (.iload 6, 2), none, some (.iconst 1, 1), some (.isub, 1), some (.if_icmp .ne 7, 3), none, none, some (.iconst 1, 1), some (.goto 4, 3), none, none, some (.iconst 0, 1), some (.ireturn, 1), some (.aload_n 0, 1), some (.bipush 8, 2), none, some (.invokevirtual 24, 3), none, none, some (.iload_n 2, 1), some (.ishr, 1), some (.iconst 1, 1), some (.iand, 1), some (.iconst 1, 1), some (.if_icmp .ne 7, 3), none, none, some (.iconst 1, 1), some (.goto 4, 3), none, none, some (.iconst 0, 1), some (.istore 6, 2), none, some (.aload_n 0, 1), some (.iload_n 2, 1), some (.invokevirtual 37, 3), none, none, some (.istore 7, 2), none, some (.iload 7, 2), none, some (.iload 5, 2), none, some (.ifCond .eq 8, 3), none, none, some (.bipush (-5), 2), none, some (.goto 16, 3), none, none, some (.iload 6, 2), none, some (.ifCond .eq 9, 3), none, none, some (.iload_n 3, 1), some (.iconst 1, 1), some (.iadd, 1), some (.goto 5, 3), none, none, some (.bipush (-4), 2), none, some (.if_icmp .ne 33, 3), none, none, some (.iload 7, 2), none, some (.ifCond .lt 24, 3), none, none, some (.aload_n 0, 1), some (.iload_n 2, 1), some (.iconst 1, 1), some (.invokevirtual 27, 3), none, none, some (.iconst 3, 1), some (.if_icmp .ne 14, 3), none, none, some (.aload_n 0, 1), some (.iload_n 2, 1), some (.bipush 7, 2), none, some (.invokevirtual 27, 3), none, none, some (.iconst 1, 1), some (.if_icmp .ne 7, 3), none, none, some (.iconst 1, 1), some (.goto 4, 3), none, none, some (.iconst 0, 1), some (.ireturn, 1)]
def tb_77 : List (Option (Instr × Nat)) := [some (.new 10, 3), none, none, some (.dup, 1), some (.invokespecial 73, 3), none, none, some (.astore_n 1, 1), some (.aload_n 1, 1), some (.invokevirtual 74, 3), none, none, some (.bipush (-4), 2), none, some (.if_icmp .ne 52, 3), none, none, some (.aload_n 1, 1), some (.invokevirtual 78, 3), none, none, some (.bipush (-5), 2), none, some (.if_icmp .ne 43, 3), none, none, some (.aload_n 1, 1), some (.aload_n 0, 1), some (.invokestatic 81, 3), none, none, some (.ifCond .eq 35, 3), none, none, some (.aload_n 1, 1), some (.invokevirtual 74, 3), none, none, some (.aload_n 1, 1), some (.iconst 0, 1), some (.invokevirtual 24, 3), none, none, some (.if_icmp .ne 23, 3), none, none, some (.aload_n 1, 1), some (.invokevirtual 33, 3), none, none, some (.dconst 0, 1), some (.dcmp .l, 1), some (.ifCond .ne 14, 3), none, none, some (.aload_n 1, 1), some (.invokevirtual 85, 3), none, none, some (.ifCond .ne 7, 3), none, none, some (.iconst 1, 1), some (.goto 4, 3), none, none, some (.iconst 0, 1), some (.istore_n 2, 1), some (.aload_n 1, 1), some (.bipush 7, 2), none, some (.invokevirtual 24, 3), none, none, some (.istore_n 3, 1), some (.iconst 0, 1), some (.istore 4, 2), none, some (.iload 4, 2), none, some (.aload_n 1, 1), some (.iconst 0, 1), some (.invokevirtual 24, 3), none, none, some (.if_icmp .ge 54, 3), none, none, some (.iload_n 2, 1), some (.ifCond .eq 50, 3), none, none, some (.iload_n 3, 1), some (.iload 4, 2), none, some (.ishr, 1), some (.iconst 1, 1), some (.iand, 1), some (.aload_n 1, 1), some (.iload 4, 2), none, some (.iconst 0, 1), some (.invokevirtual 9, 3), none, none, some (.bipush (-4), 2), none, some (.if_icmp .ne 7, 3), none, none, some (.iconst 1, 1), some (.goto 4, 3), none, none, some (.iconst 0, 1), some (.if_icmp .ne 16, 3), none, none, some (.aload_n 1, 1), some (.iload 4, 2), none, some (.invokestatic 88, 3), none, none, some (.ifCond .eq 7, 3), none, none, some (.iconst 1, 1), some (.goto 4, 3), none, none, some (.iconst 0, 1), some (.istore_n 2, 1), some (.iinc 4 1, 3), none, none, some (.goto (-58), 3), none, none, some (.iload_n 2, 1), some (.ifCond .eq 25, 3), none, none, some (.aload_n 1, 1), some (.bipush 6, 2), none, some (.invokevirtual 24, 3), none, none, some (.iload_n 3, 1), some (.ifCond .ne 7, 3), none, none, some (.iconst 1, 1), some (.goto 4, 3), none, none, some (.iconst 0, 1), some (.if_icmp .ne 7, 3), none, none, some (.iconst 1, 1), some (.goto 4, 3), none, none, some (.iconst 0, 1), some (.istore_n 2, 1), some (.iconst 0, 1), some (.istore 4, 2), none, some (.iload 4, 2), none, some (.bipush 24, 2), none, some (.if_icmp .ge 136, 3), none, none, some (.iload_n 2, 1), some (.ifCond .eq 132, 3), none, none, some (.aload_n 0, 1), some (.bipush 23, 2), none, some (.iload 4, 2), none, some (.iadd, 1), some (.invokestatic 52, 3), none, none, some (.istore 5, 2), none, some (.iload 5, 2), none, some (.bipush 12, 2), none, some (.ishr, 1), some (.iconst 3, 1), some (.irem, 1), some (.ifCond .le 21, 3), none, none, some (.aload_n 1, 1), some (.iload 5, 2), none, some (.bipush 16, 2), none, some (.ishr, 1), some (.aload_n 1, 1), some (.iconst 0, 1), some (.invokevirtual 24, 3), none, none, some (.irem, 1), some (.invokestatic 92, 3), none, none, some (.goto 9, 3), none, none, some (.aload_n 1, 1), some (.iload 5, 2), none, some (.invokestatic 95, 3), none, none, some (.istore_n 2, 1), some (.iload_n 2, 1), some (.ifCond .eq 74, 3), none, none, some (.aload_n 1, 1), some (.iload 5, 2), none, some (.bipush 20, 2), none, some (.ishr, 1), some (.aload_n 1, 1), some (.iconst 0, 1), some (.invokevirtual 24, 3), none, none, some (.irem, 1), some (.invokestatic 88, 3), none, none, some (.ifCond .eq 56, 3), none, none, some (.aload_n 1, 1), some (.invokestatic 98, 3), none, none, some (.ifCond .eq 49, 3), none, none, some (.aload_n 1, 1), some (.bipush (-5), 2), none, some (.iconst 0, 1), some (.iconst 0, 1), some (.iconst 0, 1), some (.invokevirtual 56, 3), none, none, some (.aload_n 1, 1), some (.iconst 0, 1), some (.invokevirtual 24, 3), none, none, some (.bipush 16, 2), none, some (.if_icmp .ne 8, 3), none, none, some (.bipush (-3), 2), none, some (.goto 5, 3), none, none, some (.bipush (-4), 2), none, some (.if_icmp .ne 20, 3), none, none, some (.aload_n 1, 1), some (.iconst 0, 1), some (.bipush (-5), 2), none, some (.iconst 0, 1), some (.invokevirtual 63, 3), none, none, some (.bipush (-4), 2), none, some (.if_icmp .ne 7, 3), none, none, some (.iconst 1, 1), some (.goto 4, 3), none, none, some (.iconst 0, 1), some (.istore_n 2, 1), some (.iinc 4 1, 3), none, none, some (.goto (-137), 3), none, none, some (.aload_n 1, 1), some (.iconst 5, 1), some (.invokevirtual 24, 3), none, none, some (.istore 4, 2), none, some (.iload_n 2, 1), some (.ifCond .eq 77, 3), none, none, some (.aload_n 1, 1), some (.bipush 7, 2), none, some (.invokevirtual 24, 3), none, none, some (.iload_n 3, 1), some (.if_icmp .ne 67, 3), none, none, some (.aload_n 1, 1), some (.invokevirtual 102, 3), none, none, some (.iload 4, 2), none, some (.if_icmp .ne 58, 3), none, none, some (.aload_n 1, 1), some (.invokevirtual 33, 3), none, none, some (.ldc2_w 105, 3), none, none, some (.dcmp .l, 1), some (.ifCond .ne 47, 3), none, none, some (.aload_n 1, 1), some (.iconst 2, 1), some (.invokevirtual 24, 3), none, none, some (.ifCond .ne 39, 3), none, none, some (.aload_n 1, 1), some (.iconst 3, 1), some (.invokevirtual 24, 3), none, none, some (.ifCond .ne 31, 3), none, none, some (.aload_n 1, 1), some (.invokevirtual 78, 3), none, none, some (.ifCond .lt 24, 3), none, none, some (.aload_n 1, 1), some (.iconst 5, 1), some (.invokevirtual 24, 3), none, none, some (.iload 4, 2), none, some (.if_icmp .ne 14, 3), none, none, some (.aload_n 1, 1), some (.invokestatic 98, 3), none, none, some (.ifCond .eq 7, 3), none, none, some (.iconst 1, 1), some (.goto 4, 3), none, none, some (.iconst 0, 1), some (.ireturn, 1)]
def TBS_0 : List (List (Option (Instr × Nat))) := [tb_0, tb_1, tb_2, tb_3, tb_4, tb_5, tb_6, tb_7, tb_8, tb_9, tb_10, tb_11, tb_12]
def TBS_1 : List (List (Option (Instr × Nat))) := [tb_13, tb_14, tb_15, tb_16, tb_17, tb_18, tb_19, tb_20, tb_21, tb_22, tb_23, tb_24, tb_25]
def TBS_2 : List (List (Option (Instr × Nat))) := [tb_26, tb_27, tb_28, tb_29, tb_30, tb_31, tb_32, tb_33, tb_34, tb_35, tb_36, tb_37, tb_38]
def TBS_3 : List (List (Option (Instr × Nat))) := [tb_39, tb_40, tb_41, tb_42, tb_43, tb_44, tb_45, tb_46, tb_47, tb_48, tb_49, tb_50, tb_51]
def TBS_4 : List (List (Option (Instr × Nat))) := [tb_52, tb_53, tb_54, tb_55, tb_56, tb_57, tb_58, tb_59, tb_60, tb_61, tb_62, tb_63, tb_64]
def TBS_5 : List (List (Option (Instr × Nat))) := [tb_65, tb_66, tb_67, tb_68, tb_69, tb_70, tb_71, tb_72, tb_73, tb_74, tb_75, tb_76, tb_77]
def TBS : List (List (Option (Instr × Nat))) := TBS_0 ++ (TBS_1 ++ (TBS_2 ++ (TBS_3 ++ (TBS_4 ++ (TBS_5)))))
/-- the instruction of a method at a program counter, and its length -/
def TB (y pc : Nat) : Option (Instr × Nat) := match TBS[y]? with
  | some tb => (match tb[pc]? with
    | some r => r
    | none => none)
  | none => none
set_option maxRecDepth 100000 in
theorem tk_0 : tbOk tb_0 cX0_init = true := by decide +kernel
set_option maxRecDepth 100000 in
theorem tk_1 : tbOk tb_1 cX1_init = true := by decide +kernel
set_option maxRecDepth 100000 in
theorem tk_2 : tbOk tb_2 cX1_make = true := by decide +kernel
set_option maxRecDepth 100000 in
theorem tk_3 : tbOk tb_3 cX1_countSteps = true := by decide +kernel
set_option maxRecDepth 100000 in
theorem tk_4 : tbOk tb_4 cX1_countLiftings = true := by decide +kernel
set_option maxRecDepth 100000 in
theorem tk_5 : tbOk tb_5 cX1_firstStep = true := by decide +kernel
set_option maxRecDepth 100000 in
theorem tk_6 : tbOk tb_6 cX1_isLiftingIn = true := by decide +kernel
set_option maxRecDepth 100000 in
theorem tk_7 : tbOk tb_7 cX1_addNeedsOfAll = true := by decide +kernel
set_option maxRecDepth 100000 in
theorem tk_8 : tbOk tb_8 cX1_addWayInto = true := by decide +kernel
set_option maxRecDepth 100000 in
theorem tk_9 : tbOk tb_9 cX1_addNeedsOfOpening = true := by decide +kernel
set_option maxRecDepth 100000 in
theorem tk_10 : tbOk tb_10 cX1_addNeedsOfTaking = true := by decide +kernel
set_option maxRecDepth 100000 in
theorem tk_11 : tbOk tb_11 cX1_addOpening = true := by decide +kernel
set_option maxRecDepth 100000 in
theorem tk_12 : tbOk tb_12 cX1_addTaking = true := by decide +kernel
set_option maxRecDepth 100000 in
theorem tk_13 : tbOk tb_13 cX2_init = true := by decide +kernel
set_option maxRecDepth 100000 in
theorem tk_14_0 : tbOkR tb_14 cX2_copyFrom 0 70 = true := by decide +kernel
set_option maxRecDepth 100000 in
theorem tk_14_1 : tbOkR tb_14 cX2_copyFrom 70 70 = true := by decide +kernel
set_option maxRecDepth 100000 in
theorem tk_14_2 : tbOkR tb_14 cX2_copyFrom 140 37 = true := by decide +kernel
set_option maxRecDepth 100000 in
theorem tk_14 : tbOk tb_14 cX2_copyFrom = true := tbOk_of (n := 177) rfl (fun pc h => if h0 : pc < 70 then tbAt tk_14_0 pc (by omega) (by omega) else if h1 : pc < 140 then tbAt tk_14_1 pc (by omega) (by omega) else tbAt tk_14_2 pc (by omega) (by omega))
set_option maxRecDepth 100000 in
theorem tk_15 : tbOk tb_15 cX2_addDrawer = true := by decide +kernel
set_option maxRecDepth 100000 in
theorem tk_16 : tbOk tb_16 cX2_changeBottoms = true := by decide +kernel
set_option maxRecDepth 100000 in
theorem tk_17 : tbOk tb_17 cX2_putBack = true := by decide +kernel
set_option maxRecDepth 100000 in
theorem tk_18 : tbOk tb_18 cX2_isThere = true := by decide +kernel
set_option maxRecDepth 100000 in
theorem tk_19 : tbOk tb_19 cX2_isOpen = true := by decide +kernel
set_option maxRecDepth 100000 in
theorem tk_20 : tbOk tb_20 cX2_isInHand = true := by decide +kernel
set_option maxRecDepth 100000 in
theorem tk_21 : tbOk tb_21 cX2_isReached = true := by decide +kernel
set_option maxRecDepth 100000 in
theorem tk_22 : tbOk tb_22 cX2_canOpen = true := by decide +kernel
set_option maxRecDepth 100000 in
theorem tk_23 : tbOk tb_23 cX2_isLetByHold = true := by decide +kernel
set_option maxRecDepth 100000 in
theorem tk_24 : tbOk tb_24 cX2_hasBottomLeft = true := by decide +kernel
set_option maxRecDepth 100000 in
theorem tk_25 : tbOk tb_25 cX2_canLift = true := by decide +kernel
set_option maxRecDepth 100000 in
theorem tk_26 : tbOk tb_26 cX2_canTake = true := by decide +kernel
set_option maxRecDepth 100000 in
theorem tk_27 : tbOk tb_27 cX2_canSeal = true := by decide +kernel
set_option maxRecDepth 100000 in
theorem tk_28 : tbOk tb_28 cX2_setOpen = true := by decide +kernel
set_option maxRecDepth 100000 in
theorem tk_29 : tbOk tb_29 cX2_addStep = true := by decide +kernel
set_option maxRecDepth 100000 in
theorem tk_30 : tbOk tb_30 cX2_makeAllSteps = true := by decide +kernel
set_option maxRecDepth 100000 in
theorem tk_31 : tbOk tb_31 cX2_makeSteps = true := by decide +kernel
set_option maxRecDepth 100000 in
theorem tk_32 : tbOk tb_32 cX2_hasAllHolders = true := by decide +kernel
set_option maxRecDepth 100000 in
theorem tk_33 : tbOk tb_33 cX2_openableNow = true := by decide +kernel
set_option maxRecDepth 100000 in
theorem tk_34 : tbOk tb_34 cX2_countWholeSeals = true := by decide +kernel
set_option maxRecDepth 100000 in
theorem tk_35 : tbOk tb_35 cX2_countThingsInDrawers = true := by decide +kernel
set_option maxRecDepth 100000 in
theorem tk_36 : tbOk tb_36 cX2_countThingsIn = true := by decide +kernel
set_option maxRecDepth 100000 in
theorem tk_37 : tbOk tb_37 cX2_countOuters = true := by decide +kernel
set_option maxRecDepth 100000 in
theorem tk_38 : tbOk tb_38 cX3_init = true := by decide +kernel
set_option maxRecDepth 100000 in
theorem tk_39 : tbOk tb_39 cX3_build = true := by decide +kernel
set_option maxRecDepth 100000 in
theorem tk_40 : tbOk tb_40 cX3_setBottoms = true := by decide +kernel
set_option maxRecDepth 100000 in
theorem tk_41 : tbOk tb_41 cX3_lay = true := by decide +kernel
set_option maxRecDepth 100000 in
theorem tk_42 : tbOk tb_42 cX3_begin = true := by decide +kernel
set_option maxRecDepth 100000 in
theorem tk_43 : tbOk tb_43 cX3_giveUp = true := by decide +kernel
set_option maxRecDepth 100000 in
theorem tk_44 : tbOk tb_44 cX3_open = true := by decide +kernel
set_option maxRecDepth 100000 in
theorem tk_45 : tbOk tb_45 cX3_close = true := by decide +kernel
set_option maxRecDepth 100000 in
theorem tk_46 : tbOk tb_46 cX3_lift = true := by decide +kernel
set_option maxRecDepth 100000 in
theorem tk_47 : tbOk tb_47 cX3_take = true := by decide +kernel
set_option maxRecDepth 100000 in
theorem tk_48 : tbOk tb_48 cX3_seal = true := by decide +kernel
set_option maxRecDepth 100000 in
theorem tk_49 : tbOk tb_49 cX3_undo = true := by decide +kernel
set_option maxRecDepth 100000 in
theorem tk_50_0 : tbOkR tb_50 cX3_drawer 0 70 = true := by decide +kernel
set_option maxRecDepth 100000 in
theorem tk_50_1 : tbOkR tb_50 cX3_drawer 70 70 = true := by decide +kernel
set_option maxRecDepth 100000 in
theorem tk_50_2 : tbOkR tb_50 cX3_drawer 140 52 = true := by decide +kernel
set_option maxRecDepth 100000 in
theorem tk_50 : tbOk tb_50 cX3_drawer = true := tbOk_of (n := 192) rfl (fun pc h => if h0 : pc < 70 then tbAt tk_50_0 pc (by omega) (by omega) else if h1 : pc < 140 then tbAt tk_50_1 pc (by omega) (by omega) else tbAt tk_50_2 pc (by omega) (by omega))
set_option maxRecDepth 100000 in
theorem tk_51 : tbOk tb_51 cX3_thing = true := by decide +kernel
set_option maxRecDepth 100000 in
theorem tk_52 : tbOk tb_52 cX3_needs = true := by decide +kernel
set_option maxRecDepth 100000 in
theorem tk_53 : tbOk tb_53 cX3_hint = true := by decide +kernel
set_option maxRecDepth 100000 in
theorem tk_54 : tbOk tb_54 cX3_minutes = true := by decide +kernel
set_option maxRecDepth 100000 in
theorem tk_55 : tbOk tb_55 cX3_minutesBits = true := by decide +kernel
set_option maxRecDepth 100000 in
theorem tk_56_0 : tbOkR tb_56 cX3_count 0 70 = true := by decide +kernel
set_option maxRecDepth 100000 in
theorem tk_56_1 : tbOkR tb_56 cX3_count 70 70 = true := by decide +kernel
set_option maxRecDepth 100000 in
theorem tk_56_2 : tbOkR tb_56 cX3_count 140 36 = true := by decide +kernel
set_option maxRecDepth 100000 in
theorem tk_56 : tbOk tb_56 cX3_count = true := tbOk_of (n := 176) rfl (fun pc h => if h0 : pc < 70 then tbAt tk_56_0 pc (by omega) (by omega) else if h1 : pc < 140 then tbAt tk_56_1 pc (by omega) (by omega) else tbAt tk_56_2 pc (by omega) (by omega))
set_option maxRecDepth 100000 in
theorem tk_57 : tbOk tb_57 cX3_isHold = true := by decide +kernel
set_option maxRecDepth 100000 in
theorem tk_58 : tbOk tb_58 cX3_isThing = true := by decide +kernel
set_option maxRecDepth 100000 in
theorem tk_59 : tbOk tb_59 cX3_oneIf = true := by decide +kernel
set_option maxRecDepth 100000 in
theorem tk_60 : tbOk tb_60 cX3_bit = true := by decide +kernel
set_option maxRecDepth 100000 in
theorem tk_61 : tbOk tb_61 cX3_isIn = true := by decide +kernel
set_option maxRecDepth 100000 in
theorem tk_62 : tbOk tb_62 cX3_bitsOf = true := by decide +kernel
set_option maxRecDepth 100000 in
theorem tk_63 : tbOk tb_63 cX3_recordState = true := by decide +kernel
set_option maxRecDepth 100000 in
theorem tk_64 : tbOk tb_64 cX3_dropOldest = true := by decide +kernel
set_option maxRecDepth 100000 in
theorem tk_65 : tbOk tb_65 cX3_copyState = true := by decide +kernel
set_option maxRecDepth 100000 in
theorem tk_66 : tbOk tb_66 cX3_canComeTo = true := by decide +kernel
set_option maxRecDepth 100000 in
theorem tk_67 : tbOk tb_67 cX3_neverOpened = true := by decide +kernel
set_option maxRecDepth 100000 in
theorem tk_68 : tbOk tb_68 cJ6_bitCount_0f7a4 = true := by decide +kernel
set_option maxRecDepth 100000 in
theorem tk_69 : tbOk tb_69 cJ9_max_7cf53 = true := by decide +kernel
set_option maxRecDepth 100000 in
theorem tk_70 : tbOk tb_70 cL_cell = true := by decide +kernel
set_option maxRecDepth 100000 in
theorem tk_71 : tbOk tb_71 cL_bits = true := by decide +kernel
set_option maxRecDepth 100000 in
theorem tk_72_0 : tbOkR tb_72 cL_isNeeded 0 70 = true := by decide +kernel
set_option maxRecDepth 100000 in
theorem tk_72_1 : tbOkR tb_72 cL_isNeeded 70 70 = true := by decide +kernel
set_option maxRecDepth 100000 in
theorem tk_72_2 : tbOkR tb_72 cL_isNeeded 140 70 = true := by decide +kernel
set_option maxRecDepth 100000 in
theorem tk_72_3 : tbOkR tb_72 cL_isNeeded 210 70 = true := by decide +kernel
set_option maxRecDepth 100000 in
theorem tk_72_4 : tbOkR tb_72 cL_isNeeded 280 70 = true := by decide +kernel
set_option maxRecDepth 100000 in
theorem tk_72_5 : tbOkR tb_72 cL_isNeeded 350 70 = true := by decide +kernel
set_option maxRecDepth 100000 in
theorem tk_72_6 : tbOkR tb_72 cL_isNeeded 420 24 = true := by decide +kernel
set_option maxRecDepth 100000 in
theorem tk_72 : tbOk tb_72 cL_isNeeded = true := tbOk_of (n := 444) rfl (fun pc h => if h0 : pc < 70 then tbAt tk_72_0 pc (by omega) (by omega) else if h1 : pc < 140 then tbAt tk_72_1 pc (by omega) (by omega) else if h2 : pc < 210 then tbAt tk_72_2 pc (by omega) (by omega) else if h3 : pc < 280 then tbAt tk_72_3 pc (by omega) (by omega) else if h4 : pc < 350 then tbAt tk_72_4 pc (by omega) (by omega) else if h5 : pc < 420 then tbAt tk_72_5 pc (by omega) (by omega) else tbAt tk_72_6 pc (by omega) (by omega))
set_option maxRecDepth 100000 in
theorem tk_73_0 : tbOkR tb_73 cL_goes 0 70 = true := by decide +kernel
set_option maxRecDepth 100000 in
theorem tk_73_1 : tbOkR tb_73 cL_goes 70 70 = true := by decide +kernel
set_option maxRecDepth 100000 in
theorem tk_73_2 : tbOkR tb_73 cL_goes 140 70 = true := by decide +kernel
set_option maxRecDepth 100000 in
theorem tk_73_3 : tbOkR tb_73 cL_goes 210 40 = true := by decide +kernel
set_option maxRecDepth 100000 in
theorem tk_73 : tbOk tb_73 cL_goes = true := tbOk_of (n := 250) rfl (fun pc h => if h0 : pc < 70 then tbAt tk_73_0 pc (by omega) (by omega) else if h1 : pc < 140 then tbAt tk_73_1 pc (by omega) (by omega) else if h2 : pc < 210 then tbAt tk_73_2 pc (by omega) (by omega) else tbAt tk_73_3 pc (by omega) (by omega))
set_option maxRecDepth 100000 in
theorem tk_74_0 : tbOkR tb_74 cL_builds 0 70 = true := by decide +kernel
set_option maxRecDepth 100000 in
theorem tk_74_1 : tbOkR tb_74 cL_builds 70 70 = true := by decide +kernel
set_option maxRecDepth 100000 in
theorem tk_74_2 : tbOkR tb_74 cL_builds 140 70 = true := by decide +kernel
set_option maxRecDepth 100000 in
theorem tk_74_3 : tbOkR tb_74 cL_builds 210 67 = true := by decide +kernel
set_option maxRecDepth 100000 in
theorem tk_74 : tbOk tb_74 cL_builds = true := tbOk_of (n := 277) rfl (fun pc h => if h0 : pc < 70 then tbAt tk_74_0 pc (by omega) (by omega) else if h1 : pc < 140 then tbAt tk_74_1 pc (by omega) (by omega) else if h2 : pc < 210 then tbAt tk_74_2 pc (by omega) (by omega) else tbAt tk_74_3 pc (by omega) (by omega))
set_option maxRecDepth 100000 in
theorem tk_75_0 : tbOkR tb_75 cL_isAll 0 70 = true := by decide +kernel
set_option maxRecDepth 100000 in
theorem tk_75_1 : tbOkR tb_75 cL_isAll 70 70 = true := by decide +kernel
set_option maxRecDepth 100000 in
theorem tk_75_2 : tbOkR tb_75 cL_isAll 140 70 = true := by decide +kernel
set_option maxRecDepth 100000 in
theorem tk_75_3 : tbOkR tb_75 cL_isAll 210 70 = true := by decide +kernel
set_option maxRecDepth 100000 in
theorem tk_75_4 : tbOkR tb_75 cL_isAll 280 22 = true := by decide +kernel
set_option maxRecDepth 100000 in
theorem tk_75 : tbOk tb_75 cL_isAll = true := tbOk_of (n := 302) rfl (fun pc h => if h0 : pc < 70 then tbAt tk_75_0 pc (by omega) (by omega) else if h1 : pc < 140 then tbAt tk_75_1 pc (by omega) (by omega) else if h2 : pc < 210 then tbAt tk_75_2 pc (by omega) (by omega) else if h3 : pc < 280 then tbAt tk_75_3 pc (by omega) (by omega) else tbAt tk_75_4 pc (by omega) (by omega))
set_option maxRecDepth 100000 in
theorem tk_76_0 : tbOkR tb_76 cL_acts 0 70 = true := by decide +kernel
set_option maxRecDepth 100000 in
theorem tk_76_1 : tbOkR tb_76 cL_acts 70 70 = true := by decide +kernel
set_option maxRecDepth 100000 in
theorem tk_76_2 : tbOkR tb_76 cL_acts 140 70 = true := by decide +kernel
set_option maxRecDepth 100000 in
theorem tk_76_3 : tbOkR tb_76 cL_acts 210 69 = true := by decide +kernel
set_option maxRecDepth 100000 in
theorem tk_76 : tbOk tb_76 cL_acts = true := tbOk_of (n := 279) rfl (fun pc h => if h0 : pc < 70 then tbAt tk_76_0 pc (by omega) (by omega) else if h1 : pc < 140 then tbAt tk_76_1 pc (by omega) (by omega) else if h2 : pc < 210 then tbAt tk_76_2 pc (by omega) (by omega) else tbAt tk_76_3 pc (by omega) (by omega))
set_option maxRecDepth 100000 in
theorem tk_77_0 : tbOkR tb_77 cL_law 0 70 = true := by decide +kernel
set_option maxRecDepth 100000 in
theorem tk_77_1 : tbOkR tb_77 cL_law 70 70 = true := by decide +kernel
set_option maxRecDepth 100000 in
theorem tk_77_2 : tbOkR tb_77 cL_law 140 70 = true := by decide +kernel
set_option maxRecDepth 100000 in
theorem tk_77_3 : tbOkR tb_77 cL_law 210 70 = true := by decide +kernel
set_option maxRecDepth 100000 in
theorem tk_77_4 : tbOkR tb_77 cL_law 280 70 = true := by decide +kernel
set_option maxRecDepth 100000 in
theorem tk_77_5 : tbOkR tb_77 cL_law 350 47 = true := by decide +kernel
set_option maxRecDepth 100000 in
theorem tk_77 : tbOk tb_77 cL_law = true := tbOk_of (n := 397) rfl (fun pc h => if h0 : pc < 70 then tbAt tk_77_0 pc (by omega) (by omega) else if h1 : pc < 140 then tbAt tk_77_1 pc (by omega) (by omega) else if h2 : pc < 210 then tbAt tk_77_2 pc (by omega) (by omega) else if h3 : pc < 280 then tbAt tk_77_3 pc (by omega) (by omega) else if h4 : pc < 350 then tbAt tk_77_4 pc (by omega) (by omega) else tbAt tk_77_5 pc (by omega) (by omega))
end
section
/-! THE INTERPRETER: an abstract memory, one step of a method's code as a predicate, calls as a relation -/
/-- how many cells there are; the ints, the references, the doubles by cell and place -/
abbrev Mm : Type := Nat × (Nat → Nat → Int32) × (Nat → Nat → Option Nat) × (Nat → Nat → UInt64)
def up2 {α : Type} (M : Nat → Nat → α) (c k : Nat) (x : α) : Nat → Nat → α := fun a j => if a = c ∧ j = k then x else M a j
def cp2 {α : Type} (M : Nat → Nat → α) (c0 sp c1 dp n : Nat) : Nat → Nat → α := fun a j => if a = c1 ∧ dp ≤ j ∧ j < dp + n then M c0 (sp + (j - dp)) else M a j
def rw2 {α : Type} (M : Nat → Nat → α) (c : Nat) (f : Nat → α) : Nat → Nat → α := fun a => if a = c then f else M a
theorem up2_row {α : Type} (M : Nat → Nat → α) (c k : Nat) (x : α) : up2 M c k x c = fun j => if j = k then x else M c j := by
  funext j; simp [up2]
theorem up2_ne {α : Type} (M : Nat → Nat → α) {a c : Nat} (k : Nat) (x : α) (h : a ≠ c) : up2 M c k x a = M a := by
  funext j; simp [up2, h]
theorem rw2_row {α : Type} (M : Nat → Nat → α) (c : Nat) (f : Nat → α) : rw2 M c f c = f := by simp [rw2]
theorem rw2_ne {α : Type} (M : Nat → Nat → α) {a c : Nat} (f : Nat → α) (h : a ≠ c) : rw2 M c f a = M a := by simp [rw2, h]
/-- what the cells are, in the order in which they are made: (0, class), (1, n) ints, (2, n) chars, (3, n) booleans, (4, n) doubles, (5, n) States -/
def SHS : List (Nat × Nat) := [(0, 2), (1, 16), (1, 16), (1, 16), (1, 16), (1, 16), (1, 16), (1, 12), (1, 12)]
def SHL : List (Nat × Nat) := (0, 3) :: (SHS ++ (SHS ++ (SHS ++ ([(5, 4), (0, 1), (1, 16), (0, 0), (2, 60), (1, 21), (1, 21), (1, 21), (1, 21)] ++ (SHS ++ (SHS ++ (SHS ++ SHS)))))))
def SH (c : Nat) : Nat × Nat := SHL.getD c (9, 0)
def tyOf (ci k : Nat) : FieldType := match ci with
  | 0 => tyX0 k
  | 1 => tyX1 k
  | 2 => tyX2 k
  | _ => tyX3 k
def nf (ci : Nat) : Nat := match vwCl[ci]? with
  | some r => r.2.2
  | none => 0
/-- 0 an int, 1 a boolean, 2 a reference -/
def fkd (ci k : Nat) : Nat := match tyOf ci k with
  | .int => 0
  | .boolean => 1
  | .object _ => 2
  | .array _ => 2
  | _ => 3
def fin (ci k : Nat) : Bool := match vwCl[ci]? with
  | some r => (r.2.1 k).2.2.2
  | none => false
def szc (c : Nat) : Nat := match SH c with
  | (0, ci) => nf ci
  | (_, n) => n
def SZ (n : Nat) : Nat := ((List.range n).map szc).sum
def vrf (r : Option Nat) : Value := match r with
  | none => .null
  | some c => .ref c
def fv (σ : Mm) (c ci k : Nat) : Value := match fkd ci k with
  | 2 => vrf (σ.2.2.1 c k)
  | _ => .int (σ.2.1 c k)
/-- a value of the interpreter as the machine has it: cell i at B + i, the script (written as a return address) at b -/
def vm (B b : Nat) (v : Value) : Value := match v with
  | .ref i => .ref (B + i)
  | .retAddr _ => .ref b
  | v => v
def ent (B b : Nat) (dA : Nat → ClassId) (σ : Mm) (c : Nat) : va_E := match SH c with
  | (0, ci) => .inr (ci, (List.range (nf ci)).map (fun k => vm B b (fv σ c ci k)))
  | (4, n) => .inl (dA 4, n, .inr (.inr (.inr (.inl (σ.2.2.2 c)))))
  | (5, n) => .inl (dA 5, n, .inr (.inr (.inr (.inr (fun j => (σ.2.2.1 c j).map (B + ·))))))
  | (t, n) => .inl (dA t, n, .inl (σ.2.1 c))
def wd (B b : Nat) (dA : Nat → ClassId) (σ : Mm) : va_W := (List.range σ.1).map (fun c => (B + c, ent B b dA σ c))
abbrev TYS (dA : Nat → ClassId) : List (ClassId × FieldType) := [(dA 1, .int), (dA 2, .char), (dA 5, .object RX2)]
/-- the words that do not pass a call by themselves -/
def NST : List Cond := (List.range 8).flatMap (fun own => ((LK own).filter (fun e => e.2.1 == 3 || e.2.1 == 4)).map (fun e => Cond.methodLinkNest (CN own) e.1 (mnm e.2.2) RX3))
def KK (dC : Nat → ClassId) (dI : Nat → Nat → Nat) (dA : Nat → ClassId) (U : State) : Prop := va_K (dC, dI) vwCl (TYS dA) U ∧ va_AO RX2 U ∧ ∀ w ∈ NST, va_Nw w U
def WS : List Cond := lw_tbl.filter goodWord
/-- the locals: pairs of a place and what lies there -/
abbrev Lc : Type := List (Nat × Value)
def lk (L : Lc) (i : Nat) : Option Value := match L with
  | [] => none
  | q :: r => if q.1 = i then some q.2 else lk r i
def st1 (L : Lc) (i : Nat) (v : Value) : Lc := (i, v) :: L.filter (fun q => !(q.1 == i) && !(q.1 + 1 == i && q.2.category == 2))
def st2 (L : Lc) (i : Nat) (v : Value) : Lc := (i, v) :: L.filter (fun q => !(q.1 == i) && (!(q.1 == i + 1) && !(q.1 + 1 == i && q.2.category == 2)))
def lvm (B b : Nat) (L : Lc) : Lc := L.map (fun q => (q.1, vm B b q.2))
def stw (r : List Value) : Nat := (r.map fun v => v.category).sum
def isR (v : Value) : Bool := match v with
  | .ref _ => true
  | .retAddr _ => true
  | _ => false
def cnd (c : ClassFile.Cond) (x y : Int32) : Prop := match c with
  | .eq => x = y
  | .ne => ¬ x = y
  | .lt => x < y
  | .ge => y ≤ x
  | .gt => y < x
  | .le => x ≤ y
/-- a jump's target -/
def tg (pc : Nat) (off : Int) : Nat := ((pc : Int) + off).toNat
def tgOk (pc : Nat) (off : Int) : Prop := (pc : Int) + off = ((tg pc off : Nat) : Int)
def retI (y : Nat) (x : Int32) : Prop := mrt y = some .int ∨ (mrt y = some .boolean ∧ (x = 0 ∨ x = 1))
def setI (σ : Mm) (c k : Nat) (x : Int32) : Mm := (σ.1, up2 σ.2.1 c k x, σ.2.2.1, σ.2.2.2)
def setP (σ : Mm) (c k : Nat) (x : Option Nat) : Mm := (σ.1, σ.2.1, up2 σ.2.2.1 c k x, σ.2.2.2)
def setD (σ : Mm) (c k : Nat) (x : UInt64) : Mm := (σ.1, σ.2.1, σ.2.2.1, up2 σ.2.2.2 c k x)
def cpyI (σ : Mm) (c0 sp c1 dp n : Nat) : Mm := (σ.1, cp2 σ.2.1 c0 sp c1 dp n, σ.2.2.1, σ.2.2.2)
def alc (σ : Mm) : Mm := (σ.1 + 1, rw2 σ.2.1 σ.1 (fun _ => 0), rw2 σ.2.2.1 σ.1 (fun _ => none), rw2 σ.2.2.2 σ.1 (fun _ => 0))
def atk (t : ArrayType) : Nat := match t with
  | .int => 1
  | .char => 2
  | .boolean => 3
  | .double => 4
  | _ => 8
abbrev Cal : Type := Nat → List Value → Mm → Option Value → Mm → Prop
abbrev Kn : Type := Nat → Lc → List Value → Mm → Prop
/-- one instruction of method y: dd frames may stand above this one, NT cells may stand at the end; scr: the script, where the method may read it -/
def stepP (dd NT : Nat) (call : Cal) (scr : Option (Nat × (Nat → Int32))) (y : Nat) (K : Kn) (Q : Option Value → Mm → Prop) (pc : Nat) (L : Lc) (st : List Value) (σ : Mm) : Prop :=
  match TB y pc with
  | none => False
  | some (i, n) => match i with
    | .aload_n k => n = 1 ∧ ∃ v, lk L k = some v ∧ isR v = true ∧ K (pc + 1) L (v :: st) σ
    | .iload_n k => n = 1 ∧ ∃ x, lk L k = some (.int x) ∧ K (pc + 1) L (.int x :: st) σ
    | .iload k => n = 2 ∧ ∃ x, lk L k = some (.int x) ∧ K (pc + 2) L (.int x :: st) σ
    | .fload_n k => n = 1 ∧ ∃ x, lk L k = some (.float x) ∧ K (pc + 1) L (.float x :: st) σ
    | .dload_n k => n = 1 ∧ ∃ x, lk L k = some (.double x) ∧ K (pc + 1) L (.double x :: st) σ
    | .dload k => n = 2 ∧ ∃ x, lk L k = some (.double x) ∧ K (pc + 2) L (.double x :: st) σ
    | .istore_n k => n = 1 ∧ (k : Nat) < mml y ∧ ∃ x r, st = .int x :: r ∧ K (pc + 1) (st1 L k (.int x)) r σ
    | .istore k => n = 2 ∧ k < mml y ∧ ∃ x r, st = .int x :: r ∧ K (pc + 2) (st1 L k (.int x)) r σ
    | .astore_n k => n = 1 ∧ (k : Nat) < mml y ∧ ∃ x r, st = .ref x :: r ∧ K (pc + 1) (st1 L k (.ref x)) r σ
    | .fstore_n k => n = 1 ∧ (k : Nat) < mml y ∧ ∃ x r, st = .float x :: r ∧ K (pc + 1) (st1 L k (.float x)) r σ
    | .dstore k => n = 2 ∧ k + 1 < mml y ∧ ∃ x r, st = .double x :: r ∧ K (pc + 2) (st2 L k (.double x)) r σ
    | .iinc k v => n = 3 ∧ k < mml y ∧ ∃ x, lk L k = some (.int x) ∧ K (pc + 3) (st1 L k (.int (x + Int32.ofInt v))) st σ
    | .iconst v => n = 1 ∧ K (pc + 1) L (.int (Int32.ofInt v) :: st) σ
    | .bipush v => n = 2 ∧ K (pc + 2) L (.int (Int8.ofInt v).toInt32 :: st) σ
    | .sipush v => n = 3 ∧ K (pc + 3) L (.int (Int16.ofInt v).toInt32 :: st) σ
    | .ldc ix => n = 2 ∧ ((∃ x, cst (mown y) ix = some (.int x) ∧ K (pc + 2) L (.int x :: st) σ) ∨ (∃ x, cst (mown y) ix = some (.float x) ∧ K (pc + 2) L (.float x :: st) σ))
    | .ldc_w ix => n = 3 ∧ ∃ x, cst (mown y) ix = some (.int x) ∧ K (pc + 3) L (.int x :: st) σ
    | .ldc2_w ix => n = 3 ∧ ∃ x, cst (mown y) ix = some (.double x) ∧ K (pc + 3) L (.double x :: st) σ
    | .fconst k => n = 1 ∧ ((k = 0 ∧ K (pc + 1) L (.float FP.fconst0 :: st) σ) ∨ (k = 1 ∧ K (pc + 1) L (.float FP.fconst1 :: st) σ) ∨ (k = 2 ∧ K (pc + 1) L (.float FP.fconst2 :: st) σ))
    | .dconst k => n = 1 ∧ ((k = 0 ∧ K (pc + 1) L (.double FP.dconst0 :: st) σ) ∨ (k = 1 ∧ K (pc + 1) L (.double FP.dconst1 :: st) σ))
    | .iadd => n = 1 ∧ ∃ a b r, st = .int b :: .int a :: r ∧ K (pc + 1) L (.int (a + b) :: r) σ
    | .isub => n = 1 ∧ ∃ a b r, st = .int b :: .int a :: r ∧ K (pc + 1) L (.int (a - b) :: r) σ
    | .imul => n = 1 ∧ ∃ a b r, st = .int b :: .int a :: r ∧ K (pc + 1) L (.int (a * b) :: r) σ
    | .irem => n = 1 ∧ ∃ a b r, st = .int b :: .int a :: r ∧ b ≠ 0 ∧ K (pc + 1) L (.int (a - a / b * b) :: r) σ
    | .iand => n = 1 ∧ ∃ a b r, st = .int b :: .int a :: r ∧ K (pc + 1) L (.int (a &&& b) :: r) σ
    | .ior => n = 1 ∧ ∃ a b r, st = .int b :: .int a :: r ∧ K (pc + 1) L (.int (a ||| b) :: r) σ
    | .ixor => n = 1 ∧ ∃ a b r, st = .int b :: .int a :: r ∧ K (pc + 1) L (.int (a ^^^ b) :: r) σ
    | .ishl => n = 1 ∧ ∃ a b r, st = .int b :: .int a :: r ∧ K (pc + 1) L (.int (a <<< (b &&& 31)) :: r) σ
    | .ishr => n = 1 ∧ ∃ a b r, st = .int b :: .int a :: r ∧ K (pc + 1) L (.int (a >>> (b &&& 31)) :: r) σ
    | .iushr => n = 1 ∧ ∃ a b r, st = .int b :: .int a :: r ∧ K (pc + 1) L (.int (a.toUInt32 >>> (b.toUInt32 &&& Int32.toUInt32 31)).toInt32 :: r) σ
    | .i2d => n = 1 ∧ ∃ a r, st = .int a :: r ∧ K (pc + 1) L (.double (FP.i2d a) :: r) σ
    | .f2i => n = 1 ∧ ∃ a r, st = .float a :: r ∧ K (pc + 1) L (.int (FP.f2i a) :: r) σ
    | .d2f => n = 1 ∧ ∃ a r, st = .double a :: r ∧ vf_n32 (FP.d2f a) ∧ K (pc + 1) L (.float (FP.d2f a) :: r) σ
    | .dadd => n = 1 ∧ ∃ a b r, st = .double b :: .double a :: r ∧ vf_n64 (FP.dadd a b) ∧ K (pc + 1) L (.double (FP.dadd a b) :: r) σ
    | .ddiv => n = 1 ∧ ∃ a b r, st = .double b :: .double a :: r ∧ vf_n64 (FP.ddiv a b) ∧ K (pc + 1) L (.double (FP.ddiv a b) :: r) σ
    | .fsub => n = 1 ∧ ∃ a b r, st = .float b :: .float a :: r ∧ vf_n32 (FP.fsub a b) ∧ K (pc + 1) L (.float (FP.fsub a b) :: r) σ
    | .fmul => n = 1 ∧ ∃ a b r, st = .float b :: .float a :: r ∧ vf_n32 (FP.fmul a b) ∧ K (pc + 1) L (.float (FP.fmul a b) :: r) σ
    | .fdiv => n = 1 ∧ ∃ a b r, st = .float b :: .float a :: r ∧ vf_n32 (FP.fdiv a b) ∧ K (pc + 1) L (.float (FP.fdiv a b) :: r) σ
    | .fcmp op => n = 1 ∧ ∃ a b r, st = .float b :: .float a :: r ∧ K (pc + 1) L (.int (Op.cmpValue (FP.fcmp a b) op) :: r) σ
    | .dcmp op => n = 1 ∧ ∃ a b r, st = .double b :: .double a :: r ∧ K (pc + 1) L (.int (Op.cmpValue (FP.dcmp a b) op) :: r) σ
    | .dup => n = 1 ∧ ∃ v r, st = v :: r ∧ v.category = 1 ∧ K (pc + 1) L (v :: v :: r) σ
    | .dup2 => n = 1 ∧ ∃ v w r, st = v :: w :: r ∧ v.category = 1 ∧ w.category = 1 ∧ K (pc + 1) L (v :: w :: v :: w :: r) σ
    | .ifCond q off => n = 3 ∧ tgOk pc off ∧ ∃ x r, st = .int x :: r ∧ (cnd q x 0 → K (tg pc off) L r σ) ∧ (¬ cnd q x 0 → K (pc + 3) L r σ)
    | .if_icmp q off => n = 3 ∧ tgOk pc off ∧ ∃ a b r, st = .int b :: .int a :: r ∧ (cnd q a b → K (tg pc off) L r σ) ∧ (¬ cnd q a b → K (pc + 3) L r σ)
    | .ifnull off => n = 3 ∧ ∃ c r, st = .ref c :: r ∧ K (pc + 3) L r σ
    | .goto off => n = 3 ∧ tgOk pc off ∧ K (tg pc off) L st σ
    | .tableswitch d lo hi offs => ∃ x r, st = .int x :: r ∧ ((x.toInt < lo ∨ hi < x.toInt) → tgOk pc d ∧ K (tg pc d) L r σ) ∧ (¬ (x.toInt < lo ∨ hi < x.toInt) → ∃ off, offs[(x.toInt - lo).toNat]? = some off ∧ tgOk pc off ∧ K (tg pc off) L r σ)
    | .lookupswitch d ps => (ps.toList.zip (ps.toList.drop 1)).all (fun (a, next) => a.1 < next.1) = true ∧ ∃ x r, st = .int x :: r ∧ tgOk pc (Op.lookupswitch.offset ps.toList d x.toInt) ∧ K (tg pc (Op.lookupswitch.offset ps.toList d x.toInt)) L r σ
    | .ireturn => n = 1 ∧ ∃ x, st = [.int x] ∧ retI y x ∧ Q (some (.int x)) σ
    | .dreturn => n = 1 ∧ ∃ x, st = [.double x] ∧ mrt y = some .double ∧ Q (some (.double x)) σ
    | .return_ => n = 1 ∧ st = [] ∧ mrt y = none ∧ Q none σ
    | .getfield ix => n = 3 ∧ ∃ c r ci k, st = .ref c :: r ∧ fld (mown y) ix = some (ci, k) ∧ c < σ.1 ∧ SH c = (0, ci) ∧ k < nf ci ∧ K (pc + 3) L (fv σ c ci k :: r) σ
    | .putfield ix => n = 3 ∧ ∃ v c r ci k, st = v :: .ref c :: r ∧ fld (mown y) ix = some (ci, k) ∧ c < σ.1 ∧ SH c = (0, ci) ∧ k < nf ci ∧ (fin ci k = true → (mnm y).name = "<init>" ∧ mown y = ci) ∧
        ((∃ x, v = .int x ∧ fkd ci k = 0 ∧ K (pc + 3) L r (setI σ c k x)) ∨ (∃ x, v = .int x ∧ fkd ci k = 1 ∧ (x = 0 ∨ x = 1) ∧ K (pc + 3) L r (setI σ c k x)) ∨ (∃ a, v = .ref a ∧ fkd ci k = 2 ∧ K (pc + 3) L r (setP σ c k (some a))))
    | .iaload => n = 1 ∧ ((∃ i c r, st = .int i :: .ref c :: r ∧ c < σ.1 ∧ (SH c).1 = 1 ∧ vp_in i (SH c).2 ∧ K (pc + 1) L (.int (σ.2.1 c i.toNatClampNeg) :: r) σ) ∨ (∃ i a r len xs, st = .int i :: .retAddr a :: r ∧ scr = some (len, xs) ∧ vp_in i len ∧ K (pc + 1) L (.int (xs i.toNatClampNeg) :: r) σ))
    | .arraylength => n = 1 ∧ ∃ a r len xs, st = .retAddr a :: r ∧ scr = some (len, xs) ∧ K (pc + 1) L (.int (Int32.ofNat len) :: r) σ
    | .aaload => n = 1 ∧ ∃ i c r, st = .int i :: .ref c :: r ∧ c < σ.1 ∧ (SH c).1 = 5 ∧ vp_in i (SH c).2 ∧ K (pc + 1) L (vrf (σ.2.2.1 c i.toNatClampNeg) :: r) σ
    | .iastore => n = 1 ∧ ∃ x i c r, st = .int x :: .int i :: .ref c :: r ∧ c < σ.1 ∧ (SH c).1 = 1 ∧ vp_in i (SH c).2 ∧ K (pc + 1) L r (setI σ c i.toNatClampNeg x)
    | .aastore => n = 1 ∧ ∃ a i c r, st = .ref a :: .int i :: .ref c :: r ∧ c < σ.1 ∧ (SH c).1 = 5 ∧ vp_in i (SH c).2 ∧ a < σ.1 ∧ SH a = (0, 2) ∧ K (pc + 1) L r (setP σ c i.toNatClampNeg (some a))
    | .newarray t => n = 2 ∧ ∃ z r, st = .int z :: r ∧ atk t < 8 ∧ SH σ.1 = (atk t, z.toNatClampNeg) ∧ ¬ z < 0 ∧ z.toNatClampNeg ≤ 6000 ∧ σ.1 < NT ∧ K (pc + 2) L (.ref σ.1 :: r) (alc σ)
    | .anewarray ix => n = 3 ∧ ∃ z r, st = .int z :: r ∧ nwc (mown y) ix = some 2 ∧ SH σ.1 = (5, z.toNatClampNeg) ∧ ¬ z < 0 ∧ z.toNatClampNeg ≤ 6000 ∧ σ.1 < NT ∧ K (pc + 3) L (.ref σ.1 :: r) (alc σ)
    | .new ix => n = 3 ∧ ∃ ci, nwc (mown y) ix = some ci ∧ SH σ.1 = (0, ci) ∧ σ.1 < NT ∧ K (pc + 3) L (.ref σ.1 :: st) (alc σ)
    | .invokevirtual ix => n = 3 ∧ ∃ y1 as c r v σ1, lnk (mown y) ix = some (0, y1) ∧ st = as.reverse ++ .ref c :: r ∧ as.length = mna y1 ∧ c < σ.1 ∧ SH c = (0, mown y1) ∧ stw r ≤ 8 ∧ call y1 (.ref c :: as) σ v σ1 ∧ σ1.1 ≤ NT ∧ K (pc + 3) L (v.toList ++ r) σ1
    | .invokestatic ix => n = 3 ∧ ((∃ y1 as r v σ1 kd, lnk (mown y) ix = some (kd, y1) ∧ (kd = 1 ∨ kd = 3) ∧ st = as.reverse ++ r ∧ as.length = mna y1 ∧ stw r ≤ 8 ∧ call y1 as σ v σ1 ∧ σ1.1 ≤ NT ∧ K (pc + 3) L (v.toList ++ r) σ1) ∨
        (∃ z dp c1 sp c0 r, lnk (mown y) ix = some (6, 0) ∧ st = .int z :: .int dp :: .ref c1 :: .int sp :: .ref c0 :: r ∧ stw r ≤ 8 ∧ 1 ≤ dd ∧ c0 < σ.1 ∧ c1 < σ.1 ∧ (SH c0).1 = 1 ∧ (SH c1).1 = 1 ∧ ¬ sp < 0 ∧ ¬ dp < 0 ∧ ¬ z < 0 ∧ sp.toNatClampNeg + z.toNatClampNeg ≤ (SH c0).2 ∧ dp.toNatClampNeg + z.toNatClampNeg ≤ (SH c1).2 ∧ K (pc + 3) L r (cpyI σ c0 sp.toNatClampNeg c1 dp.toNatClampNeg z.toNatClampNeg)) ∨
        (∃ f r, lnk (mown y) ix = some (7, 0) ∧ st = .float f :: r ∧ stw r ≤ 8 ∧ 1 ≤ dd ∧ K (pc + 3) L (.int f.toInt32 :: r) σ) ∨
        (∃ a b r y1, lnk (mown y) ix = some (8, y1) ∧ st = .int b :: .int a :: r ∧ stw r ≤ 8 ∧ 1 ≤ dd ∧ σ.1 ≤ NT ∧ K (pc + 3) L (.int (if a < b then b else a) :: r) σ))
    | .invokespecial ix => n = 3 ∧ ((∃ y1 as c r σ1 kd, lnk (mown y) ix = some (kd, y1) ∧ (kd = 2 ∨ kd = 4) ∧ st = as.reverse ++ .ref c :: r ∧ as.length = mna y1 ∧ stw r ≤ 8 ∧ call y1 (.ref c :: as) σ none σ1 ∧ σ1.1 ≤ NT ∧ K (pc + 3) L r σ1) ∨
        (∃ c r, lnk (mown y) ix = some (5, 0) ∧ st = .ref c :: r ∧ stw r ≤ 8 ∧ 1 ≤ dd ∧ K (pc + 3) L r σ))
    | _ => False
def runP (dd NT : Nat) (call : Cal) (scr : Option (Nat × (Nat → Int32))) (y : Nat) (Q : Option Value → Mm → Prop) : Nat → Kn
  | 0, _, _, _, _ => False
  | n + 1, pc, L, st, σ => stepP dd NT call scr y (runP dd NT call scr y Q n) Q pc L st σ
/-- method y, called with 'as' over σ, answers r and leaves σ1: at most d - 1 frames stand above its own -/
def ExecS (scr : Option (Nat × (Nat → Int32))) : Nat → Cal
  | 0, _, _, _, _, _ => False
  | d + 1, y, as, σ, r, σ1 => σ.1 ≤ σ1.1 ∧ y < yLAW ∧ stw as ≤ mml y ∧ ∃ n, runP d σ1.1 (ExecS scr d) scr y (fun v σ2 => v = r ∧ σ2 = σ1) n 0 (lv_args 0 as) [] σ
/-- a call that reads no script -/
abbrev Exec : Nat → Cal := ExecS none
end
section
/-! what the tables say, in the form in which it is used -/
def TBQ_0 : List (List (Option (Instr × Nat)) × ByteArray) := [(tb_0, cX0_init), (tb_1, cX1_init), (tb_2, cX1_make), (tb_3, cX1_countSteps), (tb_4, cX1_countLiftings), (tb_5, cX1_firstStep), (tb_6, cX1_isLiftingIn), (tb_7, cX1_addNeedsOfAll), (tb_8, cX1_addWayInto), (tb_9, cX1_addNeedsOfOpening), (tb_10, cX1_addNeedsOfTaking), (tb_11, cX1_addOpening), (tb_12, cX1_addTaking)]
theorem tq_0 : ∀ q ∈ TBQ_0, tbOk q.1 q.2 = true := List.forall_mem_cons.mpr ⟨tk_0, List.forall_mem_cons.mpr ⟨tk_1, List.forall_mem_cons.mpr ⟨tk_2, List.forall_mem_cons.mpr ⟨tk_3, List.forall_mem_cons.mpr ⟨tk_4, List.forall_mem_cons.mpr ⟨tk_5, List.forall_mem_cons.mpr ⟨tk_6, List.forall_mem_cons.mpr ⟨tk_7, List.forall_mem_cons.mpr ⟨tk_8, List.forall_mem_cons.mpr ⟨tk_9, List.forall_mem_cons.mpr ⟨tk_10, List.forall_mem_cons.mpr ⟨tk_11, List.forall_mem_cons.mpr ⟨tk_12, fun _ h => absurd h List.not_mem_nil⟩⟩⟩⟩⟩⟩⟩⟩⟩⟩⟩⟩⟩
def TBQ_1 : List (List (Option (Instr × Nat)) × ByteArray) := [(tb_13, cX2_init), (tb_14, cX2_copyFrom), (tb_15, cX2_addDrawer), (tb_16, cX2_changeBottoms), (tb_17, cX2_putBack), (tb_18, cX2_isThere), (tb_19, cX2_isOpen), (tb_20, cX2_isInHand), (tb_21, cX2_isReached), (tb_22, cX2_canOpen), (tb_23, cX2_isLetByHold), (tb_24, cX2_hasBottomLeft), (tb_25, cX2_canLift)]
theorem tq_1 : ∀ q ∈ TBQ_1, tbOk q.1 q.2 = true := List.forall_mem_cons.mpr ⟨tk_13, List.forall_mem_cons.mpr ⟨tk_14, List.forall_mem_cons.mpr ⟨tk_15, List.forall_mem_cons.mpr ⟨tk_16, List.forall_mem_cons.mpr ⟨tk_17, List.forall_mem_cons.mpr ⟨tk_18, List.forall_mem_cons.mpr ⟨tk_19, List.forall_mem_cons.mpr ⟨tk_20, List.forall_mem_cons.mpr ⟨tk_21, List.forall_mem_cons.mpr ⟨tk_22, List.forall_mem_cons.mpr ⟨tk_23, List.forall_mem_cons.mpr ⟨tk_24, List.forall_mem_cons.mpr ⟨tk_25, fun _ h => absurd h List.not_mem_nil⟩⟩⟩⟩⟩⟩⟩⟩⟩⟩⟩⟩⟩
def TBQ_2 : List (List (Option (Instr × Nat)) × ByteArray) := [(tb_26, cX2_canTake), (tb_27, cX2_canSeal), (tb_28, cX2_setOpen), (tb_29, cX2_addStep), (tb_30, cX2_makeAllSteps), (tb_31, cX2_makeSteps), (tb_32, cX2_hasAllHolders), (tb_33, cX2_openableNow), (tb_34, cX2_countWholeSeals), (tb_35, cX2_countThingsInDrawers), (tb_36, cX2_countThingsIn), (tb_37, cX2_countOuters), (tb_38, cX3_init)]
theorem tq_2 : ∀ q ∈ TBQ_2, tbOk q.1 q.2 = true := List.forall_mem_cons.mpr ⟨tk_26, List.forall_mem_cons.mpr ⟨tk_27, List.forall_mem_cons.mpr ⟨tk_28, List.forall_mem_cons.mpr ⟨tk_29, List.forall_mem_cons.mpr ⟨tk_30, List.forall_mem_cons.mpr ⟨tk_31, List.forall_mem_cons.mpr ⟨tk_32, List.forall_mem_cons.mpr ⟨tk_33, List.forall_mem_cons.mpr ⟨tk_34, List.forall_mem_cons.mpr ⟨tk_35, List.forall_mem_cons.mpr ⟨tk_36, List.forall_mem_cons.mpr ⟨tk_37, List.forall_mem_cons.mpr ⟨tk_38, fun _ h => absurd h List.not_mem_nil⟩⟩⟩⟩⟩⟩⟩⟩⟩⟩⟩⟩⟩
def TBQ_3 : List (List (Option (Instr × Nat)) × ByteArray) := [(tb_39, cX3_build), (tb_40, cX3_setBottoms), (tb_41, cX3_lay), (tb_42, cX3_begin), (tb_43, cX3_giveUp), (tb_44, cX3_open), (tb_45, cX3_close), (tb_46, cX3_lift), (tb_47, cX3_take), (tb_48, cX3_seal), (tb_49, cX3_undo), (tb_50, cX3_drawer), (tb_51, cX3_thing)]
theorem tq_3 : ∀ q ∈ TBQ_3, tbOk q.1 q.2 = true := List.forall_mem_cons.mpr ⟨tk_39, List.forall_mem_cons.mpr ⟨tk_40, List.forall_mem_cons.mpr ⟨tk_41, List.forall_mem_cons.mpr ⟨tk_42, List.forall_mem_cons.mpr ⟨tk_43, List.forall_mem_cons.mpr ⟨tk_44, List.forall_mem_cons.mpr ⟨tk_45, List.forall_mem_cons.mpr ⟨tk_46, List.forall_mem_cons.mpr ⟨tk_47, List.forall_mem_cons.mpr ⟨tk_48, List.forall_mem_cons.mpr ⟨tk_49, List.forall_mem_cons.mpr ⟨tk_50, List.forall_mem_cons.mpr ⟨tk_51, fun _ h => absurd h List.not_mem_nil⟩⟩⟩⟩⟩⟩⟩⟩⟩⟩⟩⟩⟩
def TBQ_4 : List (List (Option (Instr × Nat)) × ByteArray) := [(tb_52, cX3_needs), (tb_53, cX3_hint), (tb_54, cX3_minutes), (tb_55, cX3_minutesBits), (tb_56, cX3_count), (tb_57, cX3_isHold), (tb_58, cX3_isThing), (tb_59, cX3_oneIf), (tb_60, cX3_bit), (tb_61, cX3_isIn), (tb_62, cX3_bitsOf), (tb_63, cX3_recordState), (tb_64, cX3_dropOldest)]
theorem tq_4 : ∀ q ∈ TBQ_4, tbOk q.1 q.2 = true := List.forall_mem_cons.mpr ⟨tk_52, List.forall_mem_cons.mpr ⟨tk_53, List.forall_mem_cons.mpr ⟨tk_54, List.forall_mem_cons.mpr ⟨tk_55, List.forall_mem_cons.mpr ⟨tk_56, List.forall_mem_cons.mpr ⟨tk_57, List.forall_mem_cons.mpr ⟨tk_58, List.forall_mem_cons.mpr ⟨tk_59, List.forall_mem_cons.mpr ⟨tk_60, List.forall_mem_cons.mpr ⟨tk_61, List.forall_mem_cons.mpr ⟨tk_62, List.forall_mem_cons.mpr ⟨tk_63, List.forall_mem_cons.mpr ⟨tk_64, fun _ h => absurd h List.not_mem_nil⟩⟩⟩⟩⟩⟩⟩⟩⟩⟩⟩⟩⟩
def TBQ_5 : List (List (Option (Instr × Nat)) × ByteArray) := [(tb_65, cX3_copyState), (tb_66, cX3_canComeTo), (tb_67, cX3_neverOpened), (tb_68, cJ6_bitCount_0f7a4), (tb_69, cJ9_max_7cf53), (tb_70, cL_cell), (tb_71, cL_bits), (tb_72, cL_isNeeded), (tb_73, cL_goes), (tb_74, cL_builds), (tb_75, cL_isAll), (tb_76, cL_acts), (tb_77, cL_law)]
theorem tq_5 : ∀ q ∈ TBQ_5, tbOk q.1 q.2 = true := List.forall_mem_cons.mpr ⟨tk_65, List.forall_mem_cons.mpr ⟨tk_66, List.forall_mem_cons.mpr ⟨tk_67, List.forall_mem_cons.mpr ⟨tk_68, List.forall_mem_cons.mpr ⟨tk_69, List.forall_mem_cons.mpr ⟨tk_70, List.forall_mem_cons.mpr ⟨tk_71, List.forall_mem_cons.mpr ⟨tk_72, List.forall_mem_cons.mpr ⟨tk_73, List.forall_mem_cons.mpr ⟨tk_74, List.forall_mem_cons.mpr ⟨tk_75, List.forall_mem_cons.mpr ⟨tk_76, List.forall_mem_cons.mpr ⟨tk_77, fun _ h => absurd h List.not_mem_nil⟩⟩⟩⟩⟩⟩⟩⟩⟩⟩⟩⟩⟩
def TBQ : List (List (Option (Instr × Nat)) × ByteArray) := TBQ_0 ++ (TBQ_1 ++ (TBQ_2 ++ (TBQ_3 ++ (TBQ_4 ++ (TBQ_5)))))
theorem tq : ∀ q ∈ TBQ, tbOk q.1 q.2 = true := List.forall_mem_append.mpr ⟨tq_0, List.forall_mem_append.mpr ⟨tq_1, List.forall_mem_append.mpr ⟨tq_2, List.forall_mem_append.mpr ⟨tq_3, List.forall_mem_append.mpr ⟨tq_4, tq_5⟩⟩⟩⟩⟩
set_option maxRecDepth 100000 in
theorem tbq_eq : TBS.zip (MT.map (fun e => e.2.2.1)) = TBQ := rfl
set_option maxRecDepth 100000 in
theorem mt_len : MT.length = NM := rfl
set_option maxRecDepth 100000 in
theorem tbs_len : TBS.length = NM := rfl
theorem lk_in (own : Nat) : ∀ e ∈ LK own, ∀ w ∈ wLink own e, w ∈ lw_tbl := by
  match own with
  | 0 => exact fun e he w hw => pL_0 w (List.mem_flatMap.mpr ⟨e, he, hw⟩)
  | 1 => exact fun e he w hw => pL_1 w (List.mem_flatMap.mpr ⟨e, he, hw⟩)
  | 2 => exact fun e he w hw => pL_2 w (List.mem_flatMap.mpr ⟨e, he, hw⟩)
  | 3 => exact fun e he w hw => pL_3 w (List.mem_flatMap.mpr ⟨e, he, hw⟩)
  | 4 => exact fun e he => absurd he List.not_mem_nil
  | 5 => exact fun e he => absurd he List.not_mem_nil
  | 6 => exact fun e he => absurd he List.not_mem_nil
  | k + 7 => exact fun e he w hw => pL_7 w (List.mem_flatMap.mpr ⟨e, he, hw⟩)
theorem fk_in (own : Nat) : ∀ e ∈ FK own, wFld own e ∈ lw_tbl := by
  match own with
  | 0 => exact fun e he => pF_0 _ (List.mem_map.mpr ⟨e, he, rfl⟩)
  | 1 => exact fun e he => pF_1 _ (List.mem_map.mpr ⟨e, he, rfl⟩)
  | 2 => exact fun e he => pF_2 _ (List.mem_map.mpr ⟨e, he, rfl⟩)
  | 3 => exact fun e he => pF_3 _ (List.mem_map.mpr ⟨e, he, rfl⟩)
  | 4 => exact fun e he => absurd he List.not_mem_nil
  | 5 => exact fun e he => absurd he List.not_mem_nil
  | 6 => exact fun e he => absurd he List.not_mem_nil
  | k + 7 => exact fun e he => absurd he List.not_mem_nil
theorem ck_in (own : Nat) : ∀ e ∈ CK own, wCst own e ∈ lw_tbl := by
  match own with
  | 0 => exact fun e he => absurd he List.not_mem_nil
  | 1 => exact fun e he => absurd he List.not_mem_nil
  | 2 => exact fun e he => absurd he List.not_mem_nil
  | 3 => exact fun e he => pK_3 _ (List.mem_map.mpr ⟨e, he, rfl⟩)
  | 4 => exact fun e he => pK_4 _ (List.mem_map.mpr ⟨e, he, rfl⟩)
  | 5 => exact fun e he => absurd he List.not_mem_nil
  | 6 => exact fun e he => absurd he List.not_mem_nil
  | k + 7 => exact fun e he => pK_7 _ (List.mem_map.mpr ⟨e, he, rfl⟩)
theorem nk_in (own : Nat) : ∀ e ∈ NK own, ∀ w ∈ wNew own e, w ∈ lw_tbl := by
  match own with
  | 0 => exact fun e he => absurd he List.not_mem_nil
  | 1 => exact fun e he => absurd he List.not_mem_nil
  | 2 => exact fun e he => absurd he List.not_mem_nil
  | 3 => exact fun e he w hw => pN_3 w (List.mem_flatMap.mpr ⟨e, he, hw⟩)
  | 4 => exact fun e he => absurd he List.not_mem_nil
  | 5 => exact fun e he => absurd he List.not_mem_nil
  | 6 => exact fun e he => absurd he List.not_mem_nil
  | k + 7 => exact fun e he w hw => pN_7 w (List.mem_flatMap.mpr ⟨e, he, hw⟩)
theorem mt_in : ∀ e ∈ MT.take yLAW, wCode e ∈ lw_tbl := by
  have h : MT.take yLAW = MT_0 ++ (MT_1 ++ (MT_2 ++ (MT_3 ++ (MT_4 ++ (MT_5.take 12))))) := rfl
  rw [h]
  exact List.forall_mem_append.mpr ⟨fun e he => pC_0 _ (List.mem_map.mpr ⟨e, he, rfl⟩), List.forall_mem_append.mpr ⟨fun e he => pC_1 _ (List.mem_map.mpr ⟨e, he, rfl⟩), List.forall_mem_append.mpr ⟨fun e he => pC_2 _ (List.mem_map.mpr ⟨e, he, rfl⟩), List.forall_mem_append.mpr ⟨fun e he => pC_3 _ (List.mem_map.mpr ⟨e, he, rfl⟩), List.forall_mem_append.mpr ⟨fun e he => pC_4 _ (List.mem_map.mpr ⟨e, he, rfl⟩), fun e he => pC_5 _ (List.mem_map.mpr ⟨e, he, rfl⟩)⟩⟩⟩⟩⟩
theorem mem_WS {w : Cond} (h : w ∈ lw_tbl) (g : goodWord w = true) : w ∈ WS := List.mem_filter.mpr ⟨h, g⟩
theorem WS_good : ∀ w ∈ WS, goodWord w = true := fun _ h => (List.mem_filter.mp h).2
theorem find_in {α : Type} {l : List (Nat × α)} {ix : Nat} {q : α} (h : (l.find? (fun e => e.1 == ix)).map (·.2) = some q) : (ix, q) ∈ l := by
  obtain ⟨e, he, hq⟩ := Option.map_eq_some_iff.mp h
  have h1 := List.find?_some he
  have h2 := List.mem_of_find?_eq_some he
  have h3 : e.1 = ix := by simpa using h1
  obtain ⟨a, b⟩ := e
  dsimp only at h3 hq
  subst h3; subst hq
  exact h2
theorem lnk_in {own ix : Nat} {q : Nat × Nat} (h : lnk own ix = some q) : ∀ w ∈ wLink own (ix, q), w ∈ lw_tbl := lk_in own (ix, q) (find_in h)
theorem fld_in {own ix : Nat} {q : Nat × Nat} (h : fld own ix = some q) : wFld own (ix, q) ∈ lw_tbl := fk_in own (ix, q) (find_in h)
theorem cst_in {own ix : Nat} {v : Value} (h : cst own ix = some v) : wCst own (ix, v) ∈ lw_tbl := ck_in own (ix, v) (find_in h)
theorem nwc_in {own ix : Nat} {ci : Nat} (h : nwc own ix = some ci) : ∀ w ∈ wNew own (ix, ci), w ∈ lw_tbl := nk_in own (ix, ci) (find_in h)
theorem mrow_at {y : Nat} (h : y < NM) : MT[y]? = some (mrow y) := by
  have h1 : y < MT.length := by rw [mt_len]; exact h
  rw [List.getElem?_eq_getElem h1, mrow, List.getD_eq_getElem?_getD, List.getElem?_eq_getElem h1]
  rfl
theorem TB_ok {y pc n : Nat} {i : Instr} (hy : y < NM) (h : TB y pc = some (i, n)) : decode (mcd y) pc = .ok (i, n) := by
  unfold TB at h
  cases ht : TBS[y]? with
  | none => rw [ht] at h; cases h
  | some tb =>
    rw [ht] at h
    dsimp only at h
    have hm : (tb, mcd y) ∈ TBQ := by
      rw [← tbq_eq]
      refine List.mem_of_getElem? (i := y) ?_
      rw [List.getElem?_zip_eq_some]
      refine ⟨ht, ?_⟩
      rw [List.getElem?_map, mrow_at hy]
      rfl
    have hq := tq _ hm
    cases hp : tb[pc]? with
    | none => rw [hp] at h; cases h
    | some r =>
      rw [hp] at h
      dsimp only at h
      subst h
      have hlt : pc < tb.length := (List.getElem?_eq_some_iff.mp hp).1
      have h2 := List.all_eq_true.mp hq pc (List.mem_range.mpr hlt)
      rw [hp] at h2
      simpa using h2
theorem mt_word {y : Nat} (hy : y < yLAW) : Cond.code (mnm y) (mcd y) (mml y) (mrt y) ∈ lw_tbl := by
  have h1 := mrow_at (y := y) (Nat.lt_trans hy (by decide))
  refine mt_in (mrow y) (List.mem_of_getElem? (i := y) ?_)
  rw [List.getElem?_take_of_lt hy]
  exact h1
set_option maxRecDepth 100000 in
theorem mt_facts : ∀ y, y < NM → (mnm y).cls = CN (mown y) ∧ plainFor (mnm y) = true ∧ ((mnm y).cls ≠ "java/lang/invoke/MethodHandle" ∧ (mnm y).cls ≠ "java/lang/invoke/VarHandle" ∧ (parseMethodDescriptor (mnm y).desc).map (fun d => d.parameters.length) = some (mna y)) ∧ mml y ≤ 16 ∧ mown y < 8 := by decide +kernel
theorem in_init {c : Nat} (h : c < 8) : Cond.initialized (CN c) ∈ lw_tbl := pI _ (List.mem_map.mpr ⟨c, by
  have : c = 0 ∨ c = 1 ∨ c = 2 ∨ c = 3 ∨ c = 4 ∨ c = 5 ∨ c = 6 ∨ c = 7 := by omega
  simpa using this, rfl⟩)
theorem lays_good {C : String} {T : u_T} {N : Nat} : ∀ w ∈ u_ws C T N, goodWord w = true := by
  intro w hw
  obtain ⟨k, -, rfl⟩ := List.mem_map.mp hw
  unfold u_lay
  split <;> first | rfl | simp [goodWord, Cond.onTables, Cond.keeps, Cond.steady]
/-- the classes whose objects the world holds -/
theorem cl_ok {ci : Nat} {r : vw_C} (h : vwCl[ci]? = some r) : (∀ w ∈ u_ws r.1 r.2.1 r.2.2, w ∈ WS) ∧ (∀ k, k < r.2.2 → parseFieldDescriptor (r.2.1 k).2.2.1 = some (tyOf ci k)) ∧ (∀ a, a < r.2.2 → ∀ b, b < r.2.2 → a ≠ b → (r.2.1 a).2.1 ≠ (r.2.1 b).2.1) ∧ r.1 = CN ci ∧ nf ci = r.2.2 ∧ (∀ k, fin ci k = (r.2.1 k).2.2.2) ∧ (∀ k, k < r.2.2 → (r.2.1 k).1 = r.1) := by
  match ci, h with
  | 0, h => cases h; exact ⟨fun w hw => mem_WS (inF_0 w hw) (lays_good w hw), tyX0_ok, nmX0, rfl, rfl, fun _ => rfl, by decide +kernel⟩
  | 1, h => cases h; exact ⟨fun w hw => mem_WS (inF_1 w hw) (lays_good w hw), tyX1_ok, nmX1, rfl, rfl, fun _ => rfl, by decide +kernel⟩
  | 2, h => cases h; exact ⟨fun w hw => mem_WS (inF_2 w hw) (lays_good w hw), tyX2_ok, nmX2, rfl, rfl, fun _ => rfl, by decide +kernel⟩
  | 3, h => cases h; exact ⟨fun w hw => mem_WS (inF_3 w hw) (lays_good w hw), tyX3_ok, nmX3, rfl, rfl, fun _ => rfl, by decide +kernel⟩
  | k + 4, h => simp [vwCl] at h
theorem nf_some {ci k : Nat} (h : k < nf ci) : ∃ r, vwCl[ci]? = some r ∧ nf ci = r.2.2 := by
  cases hc : vwCl[ci]? with
  | none => unfold nf at h; rw [hc] at h; exact absurd h (Nat.not_lt_zero _)
  | some r => exact ⟨r, rfl, by unfold nf; rw [hc]⟩
theorem in_X {w : Cond} (h : w ∈ [Cond.arrayClass .int, .arrayClass .char, .arrayOver (.object RX2), .code objectInit ⟨#[0xb1]⟩ 1 none]) : w ∈ lw_tbl := pX w h
end
section
/-! SOUNDNESS of one step: what the interpreter does, the machine does -/
section S0
variable {B b : Nat} {dA : Nat → ClassId}
theorem vm_cat (v : Value) : (vm B b v).category = v.category := by cases v <;> rfl
theorem stw_vm (r : List Value) : ((r.map (vm B b)).map fun v => v.category).sum = stw r := by
  unfold stw
  rw [List.map_map]
  congr 1
  exact List.map_congr_left (fun v _ => vm_cat v)
theorem lk_mem : ∀ {L : Lc} {i : Nat} {v : Value}, lk L i = some v → (i, v) ∈ L
  | [], _, _, h => by cases h
  | q :: r, i, v, h => by
    unfold lk at h
    by_cases hq : q.1 = i
    · rw [if_pos hq] at h
      cases h
      rw [← hq]
      exact List.mem_cons_self
    · rw [if_neg hq] at h
      exact List.mem_cons_of_mem _ (lk_mem h)
theorem lv_lk {ls : Array Slot} {nL i : Nat} {L : Lc} {v : Value} (h : lv_has ls nL (lvm B b L)) (hk : lk L i = some v) : ls[i]? = some (.val (vm B b v)) :=
  h.2.2 (i, vm B b v) (List.mem_map.mpr ⟨(i, v), lk_mem hk, rfl⟩)
theorem st1_vm (L : Lc) (i : Nat) (v : Value) : (i, vm B b v) :: (lvm B b L).filter (fun q => !(q.1 == i) && !(q.1 + 1 == i && q.2.category == 2)) = lvm B b (st1 L i v) := by
  unfold lvm st1
  rw [List.map_cons, List.filter_map]
  congr 2
  apply List.filter_congr
  intro q _
  show (!(q.1 == i) && !(q.1 + 1 == i && (vm B b q.2).category == 2)) = _
  rw [vm_cat]
theorem st2_vm (L : Lc) (i : Nat) (v : Value) : (i, vm B b v) :: (lvm B b L).filter (fun q => !(q.1 == i) && (!(q.1 == i + 1) && !(q.1 + 1 == i && q.2.category == 2))) = lvm B b (st2 L i v) := by
  unfold lvm st2
  rw [List.map_cons, List.filter_map]
  congr 2
  apply List.filter_congr
  intro q _
  show (!(q.1 == i) && (!(q.1 == i + 1) && !(q.1 + 1 == i && (vm B b q.2).category == 2))) = _
  rw [vm_cat]
theorem wd_get {σ : Mm} {c : Nat} (h : c < σ.1) : (wd B b dA σ)[c]? = some (B + c, ent B b dA σ c) := by
  simp [wd, h]
theorem wd_len (σ : Mm) : (wd B b dA σ).length = σ.1 := by simp [wd]
theorem wd_at {σ : Mm} {k : Nat} {q : Nat × va_E} (h : (wd B b dA σ)[k]? = some q) : k < σ.1 ∧ q = (B + k, ent B b dA σ k) := by
  have hk : k < σ.1 := by
    have := (List.getElem?_eq_some_iff.mp h).1
    rwa [wd_len] at this
  rw [wd_get hk] at h
  exact ⟨hk, (Option.some.inj h).symm⟩
theorem wd_D (σ : Mm) : va_D (fun q => B ≤ q) (wd B b dA σ) := by
  refine ⟨fun i j p q hi hj h => ?_, fun k q hk => ?_⟩
  · rw [(wd_at hi).2, (wd_at hj).2] at h
    dsimp only at h
    omega
  · rw [(wd_at hk).2]
    exact Nat.le_add_right _ _
theorem wd_set {σ σ1 : Mm} {c : Nat} {e : va_E} (hN : σ1.1 = σ.1) (hc : ent B b dA σ1 c = e) (he : ∀ a, a ≠ c → ent B b dA σ1 a = ent B b dA σ a) : (wd B b dA σ).set c (B + c, e) = wd B b dA σ1 := by
  apply List.ext_getElem?
  intro k
  rw [List.getElem?_set]
  by_cases hk : c = k
  · subst hk
    rw [if_pos rfl]
    by_cases h : c < σ.1
    · rw [wd_len, if_pos h, wd_get (by rw [hN]; exact h), hc]
    · rw [wd_len, if_neg h]
      rw [List.getElem?_eq_none (by rw [wd_len, hN]; omega)]
  · rw [if_neg hk]
    by_cases h : k < σ.1
    · rw [wd_get h, wd_get (by rw [hN]; exact h), he k (fun q => hk q.symm)]
    · rw [List.getElem?_eq_none (by rw [wd_len]; omega), List.getElem?_eq_none (by rw [wd_len, hN]; omega)]
theorem wd_push {σ σ1 : Mm} {e : va_E} (hN : σ1.1 = σ.1 + 1) (hc : ent B b dA σ1 σ.1 = e) (he : ∀ a, a < σ.1 → ent B b dA σ1 a = ent B b dA σ a) : wd B b dA σ ++ [(B + σ.1, e)] = wd B b dA σ1 := by
  unfold wd
  rw [hN, List.range_succ, List.map_append, List.map_cons, List.map_nil, hc]
  congr 1
  exact List.map_congr_left (fun a ha => by rw [he a (List.mem_range.mp ha)])
theorem fv_eq {σ σ1 : Mm} {c ci k : Nat} (h1 : σ1.2.1 c k = σ.2.1 c k) (h2 : σ1.2.2.1 c k = σ.2.2.1 c k) : fv σ1 c ci k = fv σ c ci k := by
  unfold fv; rw [h1, h2]
theorem ent_eq {σ σ1 : Mm} {c : Nat} (h1 : σ1.2.1 c = σ.2.1 c) (h2 : σ1.2.2.1 c = σ.2.2.1 c) (h3 : σ1.2.2.2 c = σ.2.2.2 c) : ent B b dA σ1 c = ent B b dA σ c := by
  unfold ent
  rw [h1, h2, h3]
  split <;> first | rfl | (congr 2; exact List.map_congr_left (fun k _ => by rw [fv_eq (congrFun h1 k) (congrFun h2 k)]))
theorem ent_o {σ : Mm} {c ci : Nat} (h : SH c = (0, ci)) : ent B b dA σ c = .inr (ci, (List.range (nf ci)).map (fun k => vm B b (fv σ c ci k))) := by
  unfold ent; rw [h]; rfl
theorem ent_i {σ : Mm} {c t : Nat} (h : (SH c).1 = t) (ht : t = 1 ∨ t = 2 ∨ t = 3) : ent B b dA σ c = .inl (dA t, (SH c).2, .inl (σ.2.1 c)) := by
  have h' : SH c = (t, (SH c).2) := by rw [← h]
  unfold ent
  rw [h']
  rcases ht with rfl | rfl | rfl <;> rfl
theorem ent_d {σ : Mm} {c : Nat} (h : (SH c).1 = 4) : ent B b dA σ c = .inl (dA 4, (SH c).2, .inr (.inr (.inr (.inl (σ.2.2.2 c))))) := by
  have h' : SH c = (4, (SH c).2) := by rw [← h]
  unfold ent
  rw [h']
  rfl
theorem ent_q {σ : Mm} {c : Nat} (h : (SH c).1 = 5) : ent B b dA σ c = .inl (dA 5, (SH c).2, .inr (.inr (.inr (.inr (fun j => (σ.2.2.1 c j).map (B + ·)))))) := by
  have h' : SH c = (5, (SH c).2) := by rw [← h]
  unfold ent
  rw [h']
  rfl
theorem upd_eq (f : Nat → Int32) (k : Nat) (x : Int32) : upd f k x = fun j => if j = k then x else f j := rfl
theorem vm_vrf (o : Option Nat) : vm B b (vrf o) = va_rf (o.map (B + ·)) := by cases o <;> rfl
end S0
theorem NST_form {w : Cond} (h : w ∈ NST) : ∃ a i x hh, w = .methodLinkNest a i x hh := by
  obtain ⟨own, -, h⟩ := List.mem_flatMap.mp h
  obtain ⟨e, -, rfl⟩ := List.mem_map.mp h
  exact ⟨_, _, _, _, rfl⟩
theorem NST_in {own ix kd y1 : Nat} (ho : own < 8) (h : lnk own ix = some (kd, y1)) (hk : kd = 3 ∨ kd = 4) : Cond.methodLinkNest (CN own) ix (mnm y1) RX3 ∈ NST := by
  refine List.mem_flatMap.mpr ⟨own, List.mem_range.mpr ho, List.mem_map.mpr ⟨(ix, kd, y1), List.mem_filter.mpr ⟨find_in h, ?_⟩, rfl⟩⟩
  rcases hk with rfl | rfl <;> rfl
theorem KK.warm {dC : Nat → ClassId} {dI : Nat → Nat → Nat} {dA : Nat → ClassId} {s U : State} (hW : s.WarmedH U.vm) (h : KK dC dI dA s) : KK dC dI dA U := by
  refine ⟨va_K.moved hW.alike h.1, va_AO.moved hW.alike h.2.1, fun w hw => ?_⟩
  obtain ⟨a, i, x, hh, rfl⟩ := NST_form hw
  exact va_Nw.warmM hW (h.2.2 _ hw)
theorem KK.same {dC : Nat → ClassId} {dI : Nat → Nat → Nat} {dA : Nat → ClassId} {u U : State} (hv : u.vm = U.vm) (h : KK dC dI dA u) : KK dC dI dA U := by
  refine ⟨va_K.moved (by rw [hv]; exact Vm.Alike.refl _) h.1, va_AO.moved (by rw [hv]; exact Vm.Alike.refl _) h.2.1, fun w hw => ?_⟩
  obtain ⟨a, i, x, hh, rfl⟩ := NST_form hw
  exact va_Nw.same rfl hv (h.2.2 _ hw)
/-- the world of a state, as a method's start and end say it -/
def Wo (B b : Nat) (dC : Nat → ClassId) (dI : Nat → Nat → Nat) (dA : Nat → ClassId) (σ : Mm) (U : State) : Prop := U.heap.size = B + σ.1 ∧ va_P (dC, dI) vwCl (wd B b dA σ) U.heap ∧ KK dC dI dA U
/-- the script, where a method may read it -/
def scOk (B b : Nat) (scr : Option (Nat × (Nat → Int32))) (U : State) : Prop := ∀ len xs, scr = some (len, xs) → va_X b len xs U U.heap ∧ b < U.heap.size ∧ b < B
def PcG (B b : Nat) (dC : Nat → ClassId) (dI : Nat → Nat → Nat) (dA : Nat → ClassId) (scr : Option (Nat × (Nat → Int32))) (as : List Value) (σ : Mm) : Array Value → State → Prop := fun v U => v = (as.map (vm B b)).toArray ∧ Wo B b dC dI dA σ U ∧ scOk B b scr U
def QcG (B b : Nat) (dC : Nat → ClassId) (dI : Nat → Nat → Nat) (dA : Nat → ClassId) (r : Option Value) (σ : Mm) : Array Value → State → Outcome → State → Prop := fun _ st o t => o = .returned (r.map (vm B b)) ∧ t.heap.size = B + σ.1 ∧ va_P (dC, dI) vwCl (wd B b dA σ) t.heap ∧ ∀ q : Nat, q < B → t.heap[q]? = st.heap[q]?
/-- the words of a method: its code, and all words that pass a call -/
def wsG (y : Nat) : List Cond := .code (mnm y) (mcd y) (mml y) (mrt y) :: WS
/-- THE CONTRACT of a call of the interpreter -/
def CT (l : Launch) (B b : Nat) (dC : Nat → ClassId) (dI : Nat → Nat → Nat) (dA : Nat → ClassId) (scr : Option (Nat × (Nat → Int32))) (d y : Nat) (as : List Value) (σ : Mm) (r : Option Value) (σ1 : Mm) : Prop :=
  Met l (mnm y) (wsG y) ({ frames := d, cells := σ1.1 - σ.1, slots := SZ σ1.1 - SZ σ.1, locals := 35 * d }) (PcG B b dC dI dA scr as σ) (QcG B b dC dI dA r σ1) (σ1.1 - σ.1) (SZ σ1.1 - SZ σ.1) (fun q => B ≤ q)
theorem code_good {y : Nat} : goodWord (Cond.code (mnm y) (mcd y) (mml y) (mrt y)) = true := by first | rfl | simp [goodWord, Cond.onTables, Cond.keeps, Cond.steady]
theorem wsG_in {y : Nat} (hy : y < yLAW) : GoodIn WS (wsG y) := by
  intro w hw
  rcases List.mem_cons.mp hw with rfl | h
  · exact ⟨mem_WS (mt_word hy) code_good, good_of_word code_good⟩
  · exact ⟨h, good_of_word (WS_good w h)⟩
theorem PcG_blind {B b : Nat} {dC : Nat → ClassId} {dI : Nat → Nat → Nat} {dA : Nat → ClassId} {scr : Option (Nat × (Nat → Int32))} {as : List Value} {σ : Mm} : FrameBlind (PcG B b dC dI dA scr as σ) := fun a U g mk h => ⟨h.1, ⟨h.2.1.1, h.2.1.2.1, KK.same (u := U) (U := U.calling g mk a) rfl h.2.1.2.2⟩, fun len xs e => ⟨va_X.moved (u := U) (U := U.calling g mk a) (Vm.Alike.refl _) (h.2.2 len xs e).1, (h.2.2 len xs e).2⟩⟩
theorem SZ_succ (n : Nat) : SZ (n + 1) = SZ n + szc n := by
  unfold SZ; rw [List.range_succ, List.map_append, List.sum_append]; simp
theorem SZ_mono {a b : Nat} (h : a ≤ b) : SZ a ≤ SZ b := by
  induction b with
  | zero => rw [Nat.le_zero.mp h]; exact Nat.le_refl _
  | succ n ih =>
    rcases Nat.lt_or_ge n a with q | q
    · rw [show a = n + 1 by omega]; exact Nat.le_refl _
    · rw [SZ_succ]; exact Nat.le_trans (ih q) (Nat.le_add_right _ _)
end
section
/-! SOUNDNESS, the step -/
def RetOk (y pc : Nat) (v : Option Value) : Prop := match v with
  | none => decode (mcd y) pc = .ok (.return_, 1) ∧ mrt y = none
  | some (.int x) => decode (mcd y) pc = .ok (.ireturn, 1) ∧ retI y x
  | some (.double _) => decode (mcd y) pc = .ok (.dreturn, 1) ∧ mrt y = some .double
  | _ => False
section ST
variable {p : Program} {l : Launch} {e : Env} {R : Room} {s : State} {m : MethodId} {args : Array Value} {below : List Frame} {meth : Method} {c : Code} {Q : State → Prop}
variable {B b : Nat} {dC : Nat → ClassId} {dI : Nat → Nat → Nat} {dA : Nat → ClassId} {N0 dd NT y : Nat} {scr : Option (Nat × (Nat → Int32))} {call : Cal} {K : Kn} {Q1 : Option Value → Mm → Prop}
/-- the world at a point of the frame -/
def HF (B b : Nat) (dC : Nat → ClassId) (dI : Nat → Nat → Nat) (dA : Nat → ClassId) (N0 : Nat) (s : State) (σ : Mm) (H : Heap) (locs : List Loc) (cells slots : Nat) : Prop :=
  va_P (dC, dI) vwCl (wd B b dA σ) H ∧ va_S (fun q => B ≤ q) s.heap H locs ∧ cells + N0 = σ.1 ∧ slots + SZ N0 = SZ σ.1
theorem W_size {σ : Mm} {H : Heap} {locs : List Loc} {cells slots : Nat} {g : JFrame} (hs : s.heap.size = B + N0) (hH : HF B b dC dI dA N0 s σ H locs cells slots) (k : H.size = B + σ.1 → W p l e R s m args below meth c H locs cells slots Q g) : W p l e R s m args below meth c H locs cells slots Q g := by
  intro T hT X
  refine k ?_ T hT X
  have h1 := X.heapSize
  rw [hT] at h1
  obtain ⟨hP, hS, hc, -⟩ := hH
  have h2 := hS.1
  by_cases h0 : σ.1 = 0
  · omega
  · have h3 := (hP (σ.1 - 1) _ (wd_get (by omega))).lt
    dsimp only at h3
    omega
/-- what holds of the frame all along -/
def FX (p : Program) (l : Launch) (R : Room) (s : State) (m : MethodId) (args : Array Value) (meth : Method) (c : Code) (B b : Nat) (dC : Nat → ClassId) (dI : Nat → Nat → Nat) (dA : Nat → ClassId) (N0 dd NT y : Nat) (scr : Option (Nat × (Nat → Int32))) (call : Cal) : Prop :=
  p.tables.exec = Jvm.exec ∧ c.code = mcd y ∧ c.maxLocals = mml y ∧ s.vm.findClass (CN (mown y)) = some m.cls ∧ ((mnm y).name = "<init>" → meth.name = "<init>") ∧ y < NM ∧ (∀ w ∈ WS, w.before args s = true) ∧ dd ≤ R.frames ∧ 35 * dd ≤ R.locals ∧ NT ≤ N0 + R.cells ∧ SZ NT ≤ SZ N0 + R.slots ∧ KK dC dI dA s ∧ s.heap.size = B + N0 ∧
  (∀ len xs, scr = some (len, xs) → va_X b len xs s s.heap ∧ b < s.heap.size ∧ b < B) ∧
  (∀ y1 as σ v σ1, call y1 as σ v σ1 → σ.1 ≤ σ1.1 ∧ y1 < yLAW ∧ ∃ d, d + 1 ≤ dd ∧ CT l B b dC dI dA scr d y1 as σ v σ1)
theorem fkd0 {ci k : Nat} (h : fkd ci k = 0) : tyOf ci k = .int := by
  unfold fkd at h; split at h <;> first | assumption | cases h
theorem fkd1 {ci k : Nat} (h : fkd ci k = 1) : tyOf ci k = .boolean := by
  unfold fkd at h; split at h <;> first | assumption | cases h
theorem fkd2 {ci k : Nat} (h : fkd ci k = 2) (a : Nat) : narrow (tyOf ci k) (.ref a) = .ref a ∧ fits (tyOf ci k) (.ref a) = true := by
  unfold fkd at h
  split at h
  · cases h
  · cases h
  · next h' => rw [h']; exact ⟨rfl, rfl⟩
  · next h' => rw [h']; exact ⟨rfl, rfl⟩
  · cases h
theorem fkd_le : ∀ ci, ci < 4 → ∀ k, k < nf ci → fkd ci k ≤ 2 := by decide +kernel
theorem def_fv {σ : Mm} {ci k : Nat} (h : fkd ci k ≤ 2) : defaultValue (tyOf ci k) = vm B b (fv (alc σ) σ.1 ci k) := by
  have e1 : (alc σ).2.1 σ.1 k = 0 := by simp [alc, rw2]
  have e2 : (alc σ).2.2.1 σ.1 k = none := by simp [alc, rw2]
  unfold fv
  rw [e1, e2]
  unfold fkd at h ⊢
  split at h
  · next h' => rw [h']; rfl
  · next h' => rw [h']; rfl
  · next h' => rw [h']; rfl
  · next h' => rw [h']; rfl
  · omega
theorem map_set {f g : Nat → Value} {n k : Nat} {v : Value} (hk : g k = v) (hne : ∀ j, j ≠ k → g j = f j) : ((List.range n).map f).set k v = (List.range n).map g := by
  apply List.ext_getElem?
  intro j
  rw [List.getElem?_set]
  by_cases h : k = j
  · subst h
    rw [if_pos rfl]
    by_cases hj : k < n
    · simp [hj, hk]
    · simp [hj]
  · rw [if_neg h]
    by_cases hj : j < n
    · simp [hj, hne j (fun q => h q.symm)]
    · simp [hj]
theorem wd_setI {σ : Mm} {cc ci k : Nat} {x : Int32} (hs : SH cc = (0, ci)) (hf : fkd ci k ≠ 2) : (wd B b dA σ).set cc (B + cc, .inr (ci, ((List.range (nf ci)).map (fun k => vm B b (fv σ cc ci k))).set k (.int x))) = wd B b dA (setI σ cc k x) := by
  refine wd_set rfl ?_ (fun a ha => ent_eq (up2_ne _ _ _ ha) rfl rfl)
  rw [ent_o hs]
  congr 2
  refine (map_set ?_ (fun j hj => ?_)).symm
  · have : fv (setI σ cc k x) cc ci k = .int x := by
      unfold fv
      split
      · exact absurd (by assumption) hf
      · simp [setI, up2]
    rw [this]; rfl
  · exact congrArg _ (fv_eq (by simp [setI, up2, hj]) rfl)
theorem wd_setPo {σ : Mm} {cc ci k a : Nat} (hs : SH cc = (0, ci)) (hf : fkd ci k = 2) : (wd B b dA σ).set cc (B + cc, .inr (ci, ((List.range (nf ci)).map (fun k => vm B b (fv σ cc ci k))).set k (.ref (B + a)))) = wd B b dA (setP σ cc k (some a)) := by
  refine wd_set rfl ?_ (fun a ha => ent_eq rfl (up2_ne _ _ _ ha) rfl)
  rw [ent_o hs]
  congr 2
  refine (map_set ?_ (fun j hj => ?_)).symm
  · have : fv (setP σ cc k (some a)) cc ci k = .ref a := by
      unfold fv
      rw [hf]
      simp [setP, up2, vrf]
    rw [this]; rfl
  · exact congrArg _ (fv_eq rfl (by simp [setP, up2, hj]))
theorem wd_setA {σ : Mm} {cc t k : Nat} {x : Int32} (hs : (SH cc).1 = t) (ht : t = 1 ∨ t = 2 ∨ t = 3) : (wd B b dA σ).set cc (B + cc, .inl (dA t, (SH cc).2, .inl (upd (σ.2.1 cc) k x))) = wd B b dA (setI σ cc k x) := by
  refine wd_set rfl ?_ (fun a ha => ent_eq (up2_ne _ _ _ ha) rfl rfl)
  rw [ent_i hs ht]
  simp only [setI, up2_row]
  rfl
theorem wd_setDd {σ : Mm} {cc k : Nat} {x : UInt64} (hs : (SH cc).1 = 4) : (wd B b dA σ).set cc (B + cc, .inl (dA 4, (SH cc).2, .inr (.inr (.inr (.inl (vf_upd (σ.2.2.2 cc) k x)))))) = wd B b dA (setD σ cc k x) := by
  refine wd_set rfl ?_ (fun a ha => ent_eq rfl rfl (up2_ne _ _ _ ha))
  rw [ent_d hs]
  simp only [setD, up2_row]
  rfl
theorem wd_setQ {σ : Mm} {cc k a : Nat} (hs : (SH cc).1 = 5) : (wd B b dA σ).set cc (B + cc, .inl (dA 5, (SH cc).2, .inr (.inr (.inr (.inr (va_up (fun j => (σ.2.2.1 cc j).map (B + ·)) k (some (B + a)))))))) = wd B b dA (setP σ cc k (some a)) := by
  refine wd_set rfl ?_ (fun a ha => ent_eq rfl (up2_ne _ _ _ ha) rfl)
  rw [ent_q hs]
  refine congrArg (fun f => (Sum.inl (dA 5, (SH cc).2, Sum.inr (Sum.inr (Sum.inr (Sum.inr f)))) : va_E)) ?_
  funext j
  simp only [setP, up2_row, va_up]
  by_cases hj : j = k <;> simp [hj]
theorem wd_cpy {σ : Mm} {c0 sp c1 dp n : Nat} (hs : (SH c1).1 = 1) : (wd B b dA σ).set c1 (B + c1, .inl (dA 1, (SH c1).2, .inl (va_cpy (σ.2.1 c0) (σ.2.1 c1) sp dp n))) = wd B b dA (cpyI σ c0 sp c1 dp n) := by
  refine wd_set rfl ?_ (fun a ha => ent_eq ?_ rfl rfl)
  · rw [ent_i hs (Or.inl rfl)]
    refine congrArg (fun f => (Sum.inl (dA 1, (SH c1).2, Sum.inl f) : va_E)) ?_
    funext j
    simp [cpyI, cp2, va_cpy]
  · funext j
    simp [cpyI, cp2, ha]
theorem alc_row {σ : Mm} : (alc σ).2.1 σ.1 = (fun _ => 0) ∧ (alc σ).2.2.1 σ.1 = (fun _ => none) ∧ (alc σ).2.2.2 σ.1 = (fun _ => 0) := ⟨rw2_row _ _ _, rw2_row _ _ _, rw2_row _ _ _⟩
theorem wd_alc {σ : Mm} {x : va_E} (hx : ent B b dA (alc σ) σ.1 = x) : wd B b dA σ ++ [(B + σ.1, x)] = wd B b dA (alc σ) :=
  wd_push rfl hx (fun a ha => ent_eq (rw2_ne _ _ (Nat.ne_of_lt ha)) (rw2_ne _ _ (Nat.ne_of_lt ha)) (rw2_ne _ _ (Nat.ne_of_lt ha)))
/-- a new cell lies where it must -/
theorem W_new {σ : Mm} {x : va_E} {q : Nat} {H : Heap} {locs : List Loc} {cells slots : Nat} {g : JFrame} (hs : s.heap.size = B + N0) (hc : cells + N0 = σ.1) (hP : va_P (dC, dI) vwCl (wd B b dA σ ++ [(q, x)]) H) (hD : va_D (fun q => B ≤ q) (wd B b dA σ ++ [(q, x)])) (k : q = B + σ.1 → W p l e R s m args below meth c H locs (cells + 1) slots Q g) : W p l e R s m args below meth c H locs (cells + 1) slots Q g := by
  intro T hT X
  refine k ?_ T hT X
  have h1 := X.heapSize
  rw [hT] at h1
  have hq : (wd B b dA σ ++ [(q, x)])[σ.1]? = some (q, x) := by
    rw [List.getElem?_append_right (by rw [wd_len]; exact Nat.le_refl _), wd_len, Nat.sub_self]; rfl
  have h2 := (hP _ _ hq).lt
  have h3 := hD.2 _ _ hq
  dsimp only at h2 h3
  rcases Nat.lt_or_ge q (B + σ.1) with h | h
  · have hk : q - B < σ.1 := by omega
    have h4 : (wd B b dA σ ++ [(q, x)])[q - B]? = some (B + (q - B), ent B b dA σ (q - B)) := by
      rw [List.getElem?_append_left (by rw [wd_len]; exact hk), wd_get hk]
    have h5 := hD.1 _ _ _ _ h4 hq (by dsimp only; omega)
    omega
  · omega
end ST
end
section
/-! SOUNDNESS, all instructions -/
theorem nk_lt (own : Nat) : ∀ e ∈ NK own, e.2 < 4 := by
  match own with
  | 0 => exact (by decide : ∀ e ∈ NK_0, e.2 < 4)
  | 1 => exact (by decide : ∀ e ∈ NK_1, e.2 < 4)
  | 2 => exact (by decide : ∀ e ∈ NK_2, e.2 < 4)
  | 3 => exact (by decide : ∀ e ∈ NK_3, e.2 < 4)
  | 4 => exact (by decide : ∀ e ∈ NK_4, e.2 < 4)
  | 5 => exact (by decide : ∀ e ∈ NK_5, e.2 < 4)
  | 6 => exact (by decide : ∀ e ∈ NK_6, e.2 < 4)
  | k + 7 => exact (by decide : ∀ e ∈ NK_7, e.2 < 4)
abbrev lkInit (e : Nat × Nat × Nat) : Prop := ((e.2.1 = 2 ∨ e.2.1 = 4) → mrt e.2.2 = none ∧ (mnm e.2.2).name = "<init>") ∧ (e.2.1 = 8 → e.2.2 = nJ9_max_7cf53)
set_option maxRecDepth 100000 in
theorem lki_0 : ∀ e ∈ LK_0, lkInit e := by decide +kernel
set_option maxRecDepth 100000 in
theorem lki_1 : ∀ e ∈ LK_1, lkInit e := by decide +kernel
set_option maxRecDepth 100000 in
theorem lki_2 : ∀ e ∈ LK_2, lkInit e := by decide +kernel
set_option maxRecDepth 100000 in
theorem lki_3 : ∀ e ∈ LK_3, lkInit e := by decide +kernel
set_option maxRecDepth 100000 in
theorem lki_4 : ∀ e ∈ LK_4, lkInit e := by decide +kernel
set_option maxRecDepth 100000 in
theorem lki_5 : ∀ e ∈ LK_5, lkInit e := by decide +kernel
set_option maxRecDepth 100000 in
theorem lki_6 : ∀ e ∈ LK_6, lkInit e := by decide +kernel
set_option maxRecDepth 100000 in
theorem lki_7 : ∀ e ∈ LK_7, lkInit e := by decide +kernel
theorem lk_init (own : Nat) : ∀ e ∈ LK own, lkInit e := by
  match own with
  | 0 => exact lki_0
  | 1 => exact lki_1
  | 2 => exact lki_2
  | 3 => exact lki_3
  | 4 => exact lki_4
  | 5 => exact lki_5
  | 6 => exact lki_6
  | k + 7 => exact lki_7
theorem SH_lt : ∀ c, (SH c).1 = 0 → (SH c).2 < 4 := by
  have h : ∀ q ∈ SHL, q.1 = 0 → q.2 < 4 := by decide
  intro c hc
  by_cases hl : c < SHL.length
  · have e : SH c = SHL[c] := by unfold SH; rw [List.getD_eq_getElem?_getD, List.getElem?_eq_getElem hl]; rfl
    rw [e] at hc ⊢
    exact h _ (List.getElem_mem hl) hc
  · have e : SH c = (9, 0) := by unfold SH; rw [List.getD_eq_getElem?_getD, List.getElem?_eq_none (by omega)]; rfl
    rw [e] at hc
    cases hc
theorem cl_some {ci : Nat} (h : ci < 4) : ∃ r, vwCl[ci]? = some r ∧ r.1 = CN ci ∧ nf ci = r.2.2 := by
  have hl : ci < vwCl.length := h
  have e := List.getElem?_eq_getElem hl
  obtain ⟨-, -, -, h4, h5, -⟩ := cl_ok e
  exact ⟨_, e, h4, h5⟩
theorem max_nm : mnm nJ9_max_7cf53 = Lib.Math.max.name ∧ mcd nJ9_max_7cf53 = Lib.Math.max.code ∧ mml nJ9_max_7cf53 = 2 ∧ mrt nJ9_max_7cf53 = some .int := by decide +kernel
section SN
variable {p : Program} {l : Launch} {e : Env} {R : Room} {s : State} {m : MethodId} {args : Array Value} {below : List Frame} {meth : Method} {c : Code} {Q : State → Prop}
variable {B b : Nat} {dC : Nat → ClassId} {dI : Nat → Nat → Nat} {dA : Nat → ClassId} {N0 dd NT y : Nat} {scr : Option (Nat × (Nat → Int32))} {call : Cal} {K : Kn} {Q1 : Option Value → Mm → Prop}
theorem vms_int (r : List Value) (x : Int32) : (Value.int x :: r).map (vm B b) = .int x :: r.map (vm B b) := rfl
theorem link_good {own : String} {ix : Nat} {y : MethodName} : goodWord (Cond.methodLink own ix y) = true := by first | rfl | simp [goodWord, Cond.onTables, Cond.keeps, Cond.steady]
theorem inst_good {y : MethodName} : goodWord (Cond.instanceMethod y) = true := by first | rfl | simp [goodWord, Cond.onTables, Cond.keeps, Cond.steady]
theorem stat_good {y : MethodName} : goodWord (Cond.static y) = true := by first | rfl | simp [goodWord, Cond.onTables, Cond.keeps, Cond.steady]
theorem nat_good {y : MethodName} : goodWord (Cond.native y) = true := by first | rfl | simp [goodWord, Cond.onTables, Cond.keeps, Cond.steady]
theorem sel_good {C : String} {y : MethodName} : goodWord (Cond.selects C y y) = true := by first | rfl | simp [goodWord, Cond.onTables, Cond.keeps, Cond.steady]
theorem init_good {C : String} : goodWord (Cond.initialized C) = true := by first | rfl | simp [goodWord, Cond.onTables, Cond.keeps, Cond.steady]
theorem ocode_good : goodWord (Cond.code objectInit ⟨#[0xb1]⟩ 1 none) = true := by first | rfl | simp [goodWord, Cond.onTables, Cond.keeps, Cond.steady]
theorem fld_good {a : String} {i : Nat} {x y z : String} : goodWord (Cond.fieldLink a i x y z) = true := by first | rfl | simp [goodWord, Cond.onTables, Cond.keeps, Cond.steady]
theorem cst_good {a : String} {i : Nat} {x : Int32} : goodWord (Cond.constant a i x) = true := by first | rfl | simp [goodWord, Cond.onTables, Cond.keeps, Cond.steady]
theorem cstd_good {a : String} {i : Nat} {x : UInt64} : goodWord (Cond.constantDouble a i x) = true := by first | rfl | simp [goodWord, Cond.onTables, Cond.keeps, Cond.steady]
theorem cstf_good {a : String} {i : Nat} {x : UInt32} : goodWord (Cond.constantFloat a i x) = true := by first | rfl | simp [goodWord, Cond.onTables, Cond.keeps, Cond.steady]
theorem cl_good {a C : String} {i : Nat} : goodWord (Cond.classLink a i C) = true := by first | rfl | simp [goodWord, Cond.onTables, Cond.keeps, Cond.steady]
theorem ins_good {C : String} {i : Nat} : goodWord (Cond.instantiable C i) = true := by first | rfl | simp [goodWord, Cond.onTables, Cond.keeps, Cond.steady]
theorem ac_good {t : FieldType} : goodWord (Cond.arrayClass t) = true := rfl
/-- behind a call -/
theorem callG {H : Heap} {locs : List Loc} {cells slots mc ms pc : Nat} {ls : Array Slot} {rest st0 : List Value} {a : Array Value} {r : Option Value} {σ1 : Mm}
    (hr : va_Run p l e R s m args below meth c H locs cells slots mc ms (F0 m pc ls st0) rest (QcG B b dC dI dA r σ1 a) (fun q => B ≤ q)) (hS : va_S (fun q => B ≤ q) s.heap H locs) (hz : H.size ≤ B + σ1.1)
    (kk : ∀ (H1 : Heap) (locs1 : List Loc), va_P (dC, dI) vwCl (wd B b dA σ1) H1 → va_S (fun q => B ≤ q) s.heap H1 locs1 → W p l e R s m args below meth c H1 locs1 (cells + mc) (slots + ms) Q (F0 m (pc + 3) ls ((r.map (vm B b)).toList ++ rest))) : W p l e R s m args below meth c H locs cells slots Q (F0 m pc ls st0) := by
  intro T hT X
  obtain ⟨v, st₀, t, T', L, h0, X', hL, e1, e2, ⟨hv, hz1, hP, hk⟩, st⟩ := hr T hT X
  cases hv
  rw [h0] at hk
  obtain ⟨t2, a1, b1⟩ := kk T'.heap (locs ++ L) (by rw [e1]; exact hP)
    ⟨by rw [e1, hz1]; exact Nat.le_trans hS.1 hz, fun q h1 h2 => by rw [e1, hk q (Nat.not_le.mp h2)]; exact hS.2.1 q h1 h2, fun q hq => by
      rcases List.mem_append.mp hq with h | h
      · exact hS.2.2 q h
      · exact hL q h⟩ T' rfl X'
  exact ⟨t2, st t2 a1, b1⟩
/-- the callee's start, at the caller's world -/
theorem preG {as : List Value} {σ : Mm} {H : Heap} {locs : List Loc} (hsz : H.size = B + σ.1) (hP : va_P (dC, dI) vwCl (wd B b dA σ) H) (hKs : KK dC dI dA s) (hS : va_S (fun q => B ≤ q) s.heap H locs) (hscr : ∀ len xs, scr = some (len, xs) → va_X b len xs s s.heap ∧ b < s.heap.size ∧ b < B) : ∀ U : State, U.heap = H → s.WarmedH U.vm → PcG B b dC dI dA scr as σ (as.map (vm B b)).toArray U :=
  fun U hU hW => ⟨rfl, ⟨by rw [hU]; exact hsz, by rw [hU]; exact hP, KK.warm hW hKs⟩, fun len xs e => by
    obtain ⟨g1, g2, g3⟩ := hscr len xs e
    rw [hU]
    exact ⟨va_X.moved hW.alike (g1.kept (hS.2.1 b g2 (Nat.not_le.mpr g3))), Nat.lt_of_lt_of_le g2 hS.1, g3⟩⟩
set_option maxHeartbeats 4000000 in
set_option maxRecDepth 10000 in
theorem step_snd (hF : FX p l R s m args meth c B b dC dI dA N0 dd NT y scr call)
    (hK : ∀ (pc : Nat) (L : Lc) (st : List Value) (σ : Mm) (H : Heap) (locs : List Loc) (cells slots : Nat) (ls : Array Slot), K pc L st σ → HF B b dC dI dA N0 s σ H locs cells slots → lv_has ls (mml y) (lvm B b L) → W p l e R s m args below meth c H locs cells slots Q (F0 m pc ls (st.map (vm B b))))
    (hQ : ∀ (pc : Nat) (σ : Mm) (H : Heap) (locs : List Loc) (cells slots : Nat) (ls : Array Slot) (v : Option Value), Q1 v σ → RetOk y pc v → HF B b dC dI dA N0 s σ H locs cells slots → W p l e R s m args below meth c H locs cells slots Q (F0 m pc ls (v.toList.map (vm B b))))
    {pc : Nat} {L : Lc} {st : List Value} {σ : Mm} {H : Heap} {locs : List Loc} {cells slots : Nat} {ls : Array Slot} (h : stepP dd NT call scr y K Q1 pc L st σ) (hH : HF B b dC dI dA N0 s σ H locs cells slots) (hl : lv_has ls (mml y) (lvm B b L)) :
    W p l e R s m args below meth c H locs cells slots Q (F0 m pc ls (st.map (vm B b))) := by
  obtain ⟨hx, hb, hml, hown, hini, hyN, hts, hRf, hRl, hRc, hRs, hKs, hhs, hscr, hcall⟩ := hF
  refine W_size hhs hH (fun hsz => ?_)
  obtain ⟨hP, hS, hc, hz⟩ := id hH
  have hD := wd_D (B := B) (b := b) (dA := dA) σ
  have hA : ∀ q : Nat, s.heap.size ≤ q → (fun q => B ≤ q) q := fun q h => by dsimp only; omega
  unfold stepP at h
  cases hT : TB y pc with
  | none => rw [hT] at h; exact h.elim
  | some q =>
  obtain ⟨i, n⟩ := q
  rw [hT] at h
  have hd := TB_ok hyN hT
  cases i <;> first | exact False.elim h | skip
  case aload_n k =>
    obtain ⟨rfl, v, hv, hr, hk⟩ := h
    cases v <;> first | (cases hr; done) | exact lv_aload_n hx hb hd rfl (lv_lk hl hv) (hK _ _ _ _ _ _ _ _ _ hk hH hl)
  case iload_n k => obtain ⟨rfl, v, hv, hk⟩ := h; exact lv_iload_n hx hb hd rfl (lv_lk hl hv) (hK _ _ _ _ _ _ _ _ _ hk hH hl)
  case iload k => obtain ⟨rfl, v, hv, hk⟩ := h; exact lv_iload hx hb hd (lv_lk hl hv) (hK _ _ _ _ _ _ _ _ _ hk hH hl)
  case fload_n k => obtain ⟨rfl, v, hv, hk⟩ := h; exact lv_fload_n hx hb hd rfl (lv_lk hl hv) (hK _ _ _ _ _ _ _ _ _ hk hH hl)
  case dload_n k => obtain ⟨rfl, v, hv, hk⟩ := h; exact lv_dload_n hx hb hd rfl (lv_lk hl hv) (hK _ _ _ _ _ _ _ _ _ hk hH hl)
  case dload k => obtain ⟨rfl, v, hv, hk⟩ := h; exact lv_dload hx hb hd (lv_lk hl hv) (hK _ _ _ _ _ _ _ _ _ hk hH hl)
  case istore_n k => obtain ⟨rfl, hlt, v, r, rfl, hk⟩ := h; exact lv_istore_n hx hb hd rfl hl hlt (st1_vm L k (.int v)) (fun ls' hl' => hK _ _ _ _ _ _ _ _ _ hk hH hl')
  case istore k => obtain ⟨rfl, hlt, v, r, rfl, hk⟩ := h; exact lv_istore hx hb hd hl hlt (st1_vm L k (.int v)) (fun ls' hl' => hK _ _ _ _ _ _ _ _ _ hk hH hl')
  case astore_n k => obtain ⟨rfl, hlt, v, r, rfl, hk⟩ := h; exact lv_astore_n hx hb hd rfl hl hlt (st1_vm L k (.ref v)) (fun ls' hl' => hK _ _ _ _ _ _ _ _ _ hk hH hl')
  case fstore_n k => obtain ⟨rfl, hlt, v, r, rfl, hk⟩ := h; exact lv_fstore_n hx hb hd rfl hl hlt (st1_vm L k (.float v)) (fun ls' hl' => hK _ _ _ _ _ _ _ _ _ hk hH hl')
  case dstore k => obtain ⟨rfl, hlt, v, r, rfl, hk⟩ := h; exact lv_dstore hx hb hd hl hlt (st2_vm L k (.double v)) (fun ls' hl' => hK _ _ _ _ _ _ _ _ _ hk hH hl')
  case iinc k v =>
    obtain ⟨rfl, hlt, x, hv, hk⟩ := h
    obtain ⟨j, hj⟩ := List.getElem?_of_mem (List.mem_map.mpr ⟨(k, .int x), lk_mem hv, rfl⟩ : ((k, Value.int x) : Nat × Value) ∈ lvm B b L)
    exact lv_iinc hx hb hd hl hj rfl hlt (st1_vm L k (.int (x + Int32.ofInt v))) (fun ls' hl' => hK _ _ _ _ _ _ _ _ _ hk hH hl')
  case iconst v => obtain ⟨rfl, hk⟩ := h; exact lv_iconst hx hb hd rfl (hK _ _ _ _ _ _ _ _ _ hk hH hl)
  case bipush v => obtain ⟨rfl, hk⟩ := h; exact lv_bipush hx hb hd rfl (hK _ _ _ _ _ _ _ _ _ hk hH hl)
  case sipush v => obtain ⟨rfl, hk⟩ := h; exact lv_sipush hx hb hd rfl (hK _ _ _ _ _ _ _ _ _ hk hH hl)
  case ldc ix =>
    obtain ⟨rfl, ⟨x, hv, hk⟩ | ⟨x, hv, hk⟩⟩ := h
    · exact lv_ldc hx hb hown (hts _ (mem_WS (cst_in hv) cst_good)) hd (hK _ _ _ _ _ _ _ _ _ hk hH hl)
    · exact lv_ldcf hx hb hown (hts _ (mem_WS (cst_in hv) cstf_good)) hd (hK _ _ _ _ _ _ _ _ _ hk hH hl)
  case ldc_w ix => obtain ⟨rfl, x, hv, hk⟩ := h; exact lv_ldcw hx hb hown (hts _ (mem_WS (cst_in hv) cst_good)) hd (hK _ _ _ _ _ _ _ _ _ hk hH hl)
  case ldc2_w ix => obtain ⟨rfl, x, hv, hk⟩ := h; exact lv_ldc2d hx hb hown (hts _ (mem_WS (cst_in hv) cstd_good)) hd (hK _ _ _ _ _ _ _ _ _ hk hH hl)
  case fconst k =>
    obtain ⟨rfl, ⟨rfl, hk⟩ | ⟨rfl, hk⟩ | ⟨rfl, hk⟩⟩ := h
    · exact lv_fconst0 hx hb hd (hK _ _ _ _ _ _ _ _ _ hk hH hl)
    · exact lv_fconst1 hx hb hd (hK _ _ _ _ _ _ _ _ _ hk hH hl)
    · exact lv_fconst2 hx hb hd (hK _ _ _ _ _ _ _ _ _ hk hH hl)
  case dconst k =>
    obtain ⟨rfl, ⟨rfl, hk⟩ | ⟨rfl, hk⟩⟩ := h
    · exact lv_dconst0 hx hb hd (hK _ _ _ _ _ _ _ _ _ hk hH hl)
    · exact lv_dconst1 hx hb hd (hK _ _ _ _ _ _ _ _ _ hk hH hl)
  case iadd => obtain ⟨rfl, a1, b1, r, rfl, hk⟩ := h; exact lv_iadd hx hb hd (hK _ _ _ _ _ _ _ _ _ hk hH hl)
  case isub => obtain ⟨rfl, a1, b1, r, rfl, hk⟩ := h; exact lv_isub hx hb hd (hK _ _ _ _ _ _ _ _ _ hk hH hl)
  case imul => obtain ⟨rfl, a1, b1, r, rfl, hk⟩ := h; exact lv_imul hx hb hd (hK _ _ _ _ _ _ _ _ _ hk hH hl)
  case irem => obtain ⟨rfl, a1, b1, r, rfl, hne, hk⟩ := h; exact lv_irem hx hb hd hne (hK _ _ _ _ _ _ _ _ _ hk hH hl)
  case ishr => obtain ⟨rfl, a1, b1, r, rfl, hk⟩ := h; exact lv_ishr hx hb hd (hK _ _ _ _ _ _ _ _ _ hk hH hl)
  case iand => obtain ⟨rfl, a1, b1, r, rfl, hk⟩ := h; exact lv_iand hx hb hd (hK _ _ _ _ _ _ _ _ _ hk hH hl)
  case ior => obtain ⟨rfl, a1, b1, r, rfl, hk⟩ := h; exact lv_ior hx hb hd (hK _ _ _ _ _ _ _ _ _ hk hH hl)
  case ixor => obtain ⟨rfl, a1, b1, r, rfl, hk⟩ := h; exact lv_ixor hx hb hd (hK _ _ _ _ _ _ _ _ _ hk hH hl)
  case ishl => obtain ⟨rfl, a1, b1, r, rfl, hk⟩ := h; exact lv_ishl hx hb hd (hK _ _ _ _ _ _ _ _ _ hk hH hl)
  case iushr => obtain ⟨rfl, a1, b1, r, rfl, hk⟩ := h; exact lv_iushr hx hb hd rfl (hK _ _ _ _ _ _ _ _ _ hk hH hl)
  case i2d => obtain ⟨rfl, a1, r, rfl, hk⟩ := h; exact lv_i2d hx hb hd (hK _ _ _ _ _ _ _ _ _ hk hH hl)
  case f2i => obtain ⟨rfl, a1, r, rfl, hk⟩ := h; exact lv_f2i hx hb hd (hK _ _ _ _ _ _ _ _ _ hk hH hl)
  case d2f => obtain ⟨rfl, a1, r, rfl, hn, hk⟩ := h; exact lv_d2f hx hb hd hn (hK _ _ _ _ _ _ _ _ _ hk hH hl)
  case dadd => obtain ⟨rfl, a1, b1, r, rfl, hn, hk⟩ := h; exact lv_dadd hx hb hd hn (hK _ _ _ _ _ _ _ _ _ hk hH hl)
  case ddiv => obtain ⟨rfl, a1, b1, r, rfl, hn, hk⟩ := h; exact lv_ddiv hx hb hd hn (hK _ _ _ _ _ _ _ _ _ hk hH hl)
  case fsub => obtain ⟨rfl, a1, b1, r, rfl, hn, hk⟩ := h; exact lv_fsub hx hb hd hn (hK _ _ _ _ _ _ _ _ _ hk hH hl)
  case fmul => obtain ⟨rfl, a1, b1, r, rfl, hn, hk⟩ := h; exact lv_fmul hx hb hd hn (hK _ _ _ _ _ _ _ _ _ hk hH hl)
  case fdiv => obtain ⟨rfl, a1, b1, r, rfl, hn, hk⟩ := h; exact lv_fdiv hx hb hd hn (hK _ _ _ _ _ _ _ _ _ hk hH hl)
  case fcmp op => obtain ⟨rfl, a1, b1, r, rfl, hk⟩ := h; exact lv_fcmp hx hb hd (hK _ _ _ _ _ _ _ _ _ hk hH hl)
  case dcmp op => obtain ⟨rfl, a1, b1, r, rfl, hk⟩ := h; exact lv_dcmp hx hb hd (hK _ _ _ _ _ _ _ _ _ hk hH hl)
  case dup => obtain ⟨rfl, v, r, rfl, hv, hk⟩ := h; exact lv_dup hx hb hd (by rw [vm_cat]; exact hv) (hK _ _ _ _ _ _ _ _ _ hk hH hl)
  case dup2 => obtain ⟨rfl, v, w, r, rfl, hv, hw, hk⟩ := h; exact lv_dup2_11 hx hb hd (by rw [vm_cat]; exact hv) (by rw [vm_cat]; exact hw) (hK _ _ _ _ _ _ _ _ _ hk hH hl)
  case ifCond q off =>
    obtain ⟨rfl, ht, x, r, rfl, k1, k2⟩ := h
    cases q
    · exact lv_if_eq hx hb hd ht (fun z => hK _ _ _ _ _ _ _ _ _ (k1 z) hH hl) (fun z => hK _ _ _ _ _ _ _ _ _ (k2 z) hH hl)
    · exact lv_if_ne hx hb hd ht (fun z => hK _ _ _ _ _ _ _ _ _ (k1 z) hH hl) (fun z => hK _ _ _ _ _ _ _ _ _ (k2 (by simpa [cnd] using z)) hH hl)
    · exact lv_if_lt hx hb hd ht (fun z => hK _ _ _ _ _ _ _ _ _ (k1 z) hH hl) (fun z => hK _ _ _ _ _ _ _ _ _ (k2 z) hH hl)
    · exact lv_if_ge hx hb hd ht (fun z => hK _ _ _ _ _ _ _ _ _ (k1 z) hH hl) (fun z => hK _ _ _ _ _ _ _ _ _ (k2 (by first | exact z | simpa [cnd] using z)) hH hl)
    · exact lv_if_gt hx hb hd ht (fun z => hK _ _ _ _ _ _ _ _ _ (k1 z) hH hl) (fun z => hK _ _ _ _ _ _ _ _ _ (k2 (by first | exact z | simpa [cnd] using z)) hH hl)
    · exact lv_if_le hx hb hd ht (fun z => hK _ _ _ _ _ _ _ _ _ (k1 z) hH hl) (fun z => hK _ _ _ _ _ _ _ _ _ (k2 (by first | exact z | simpa [cnd] using z)) hH hl)
  case if_icmp q off =>
    obtain ⟨rfl, ht, a1, b1, r, rfl, k1, k2⟩ := h
    cases q
    · exact lv_icmp_eq hx hb hd ht (fun z => hK _ _ _ _ _ _ _ _ _ (k1 z) hH hl) (fun z => hK _ _ _ _ _ _ _ _ _ (k2 z) hH hl)
    · exact lv_icmp_ne hx hb hd ht (fun z => hK _ _ _ _ _ _ _ _ _ (k1 z) hH hl) (fun z => hK _ _ _ _ _ _ _ _ _ (k2 (by simpa [cnd] using z)) hH hl)
    · exact lv_icmp_lt hx hb hd ht (fun z => hK _ _ _ _ _ _ _ _ _ (k1 z) hH hl) (fun z => hK _ _ _ _ _ _ _ _ _ (k2 z) hH hl)
    · exact lv_icmp_ge hx hb hd ht (fun z => hK _ _ _ _ _ _ _ _ _ (k1 z) hH hl) (fun z => hK _ _ _ _ _ _ _ _ _ (k2 (by first | exact z | simpa [cnd] using z)) hH hl)
    · exact lv_icmp_gt hx hb hd ht (fun z => hK _ _ _ _ _ _ _ _ _ (k1 z) hH hl) (fun z => hK _ _ _ _ _ _ _ _ _ (k2 (by first | exact z | simpa [cnd] using z)) hH hl)
    · exact lv_icmp_le hx hb hd ht (fun z => hK _ _ _ _ _ _ _ _ _ (k1 z) hH hl) (fun z => hK _ _ _ _ _ _ _ _ _ (k2 (by first | exact z | simpa [cnd] using z)) hH hl)
  case ifnull off => obtain ⟨rfl, cc, r, rfl, hk⟩ := h; exact lv_ifnull hx hb hd (hK _ _ _ _ _ _ _ _ _ hk hH hl)
  case goto off => obtain ⟨rfl, ht, hk⟩ := h; exact lv_goto hx hb hd ht (hK _ _ _ _ _ _ _ _ _ hk hH hl)
  case tableswitch d lo hi offs =>
    obtain ⟨x, r, rfl, k1, k2⟩ := h
    by_cases hr : x.toInt < lo ∨ hi < x.toInt
    · obtain ⟨ht, hk⟩ := k1 hr
      exact lv_tableOut hx hb hd hr ht (hK _ _ _ _ _ _ _ _ _ hk hH hl)
    · obtain ⟨off, ho, ht, hk⟩ := k2 hr
      exact lv_tableIn hx hb hd (fun z => hr (Or.inl z)) (fun z => hr (Or.inr z)) ho ht (hK _ _ _ _ _ _ _ _ _ hk hH hl)
  case lookupswitch d ps => obtain ⟨ho, x, r, rfl, ht, hk⟩ := h; exact lv_lookup hx hb hd ho rfl ht (hK _ _ _ _ _ _ _ _ _ hk hH hl)
  case ireturn => obtain ⟨rfl, x, rfl, hr, hk⟩ := h; exact hQ _ _ _ _ _ _ _ (some (.int x)) hk ⟨hd, hr⟩ hH
  case dreturn => obtain ⟨rfl, x, rfl, hr, hk⟩ := h; exact hQ _ _ _ _ _ _ _ (some (.double x)) hk ⟨hd, hr⟩ hH
  case return_ => obtain ⟨rfl, rfl, hr, hk⟩ := h; exact hQ _ _ _ _ _ _ _ none hk ⟨hd, hr⟩ hH
  case getfield ix =>
    obtain ⟨rfl, cc, r, ci, k, rfl, hf, hc1, hs, hk, hk2⟩ := h
    obtain ⟨w, hr, hn⟩ := nf_some hk
    obtain ⟨h1, h2, h3, h4, h5, h6, h7⟩ := cl_ok hr
    have hw := fld_in hf
    simp only [wFld, hr] at hw
    exact va_get (D := (dC, dI)) (cl := vwCl) (ci := ci) (C := w.1) (T := w.2.1) (N := w.2.2) hx hb hts h1 hown hKs.1 hP cc (by rw [wd_get hc1, ent_o hs]) hr k (hn ▸ hk) (hts _ (mem_WS hw fld_good)) (fun x hx => by rw [h7 k (hn ▸ hk)] at hx; exact hx) (v := vm B b (fv σ cc ci k)) (by simp [hk]) hd (hK _ _ _ _ _ _ _ _ _ hk2 hH hl)
  case putfield ix =>
    obtain ⟨rfl, v, cc, r, ci, k, rfl, hf, hc1, hs, hk, hfin, hk2⟩ := h
    obtain ⟨w, hr, hn⟩ := nf_some hk
    obtain ⟨h1, h2, h3, h4, h5, h6, h7⟩ := cl_ok hr
    have hw := fld_in hf
    simp only [wFld, hr] at hw
    have hent : (wd B b dA σ)[cc]? = some (B + cc, .inr (ci, (List.range (nf ci)).map (fun k => vm B b (fv σ cc ci k)))) := by rw [wd_get hc1, ent_o hs]
    have key : ∀ (v1 : Value), vm B b v = v1 → narrow (tyOf ci k) v1 = v1 → fits (tyOf ci k) v1 = true → (∀ (H1 : Heap) (locs1 : List Loc), va_P (dC, dI) vwCl ((wd B b dA σ).set cc (B + cc, .inr (ci, ((List.range (nf ci)).map (fun k => vm B b (fv σ cc ci k))).set k v1))) H1 → va_S (fun q => B ≤ q) s.heap H1 locs1 → W p l e R s m args below meth c H1 locs1 cells slots Q (F0 m (pc + 3) ls (r.map (vm B b)))) → W p l e R s m args below meth c H locs cells slots Q (F0 m pc ls ((v :: .ref cc :: r).map (vm B b))) := by
      intro v1 e1 hn1 hf1 kk
      subst e1
      cases hfq : fin ci k with
      | false =>
        exact va_put (D := (dC, dI)) (cl := vwCl) (ci := ci) (C := w.1) (T := w.2.1) (N := w.2.2) hx hb hts h1 (tyOf ci) h2 h3 hown hKs.1 hP hD hS cc hent hr k (hn ▸ hk) (hts _ (mem_WS hw fld_good)) (fun x hx => by rw [h7 k (hn ▸ hk)] at hx; exact hx) (by rw [← h6]; exact hfq) (h2 k (hn ▸ hk)) hn1 hf1 (by simp [hk]) hd (fun H1 locs1 g1 _ g3 => kk H1 locs1 g1 g3)
      | true =>
        obtain ⟨hin, hdc⟩ := hfin hfq
        exact va_putF (D := (dC, dI)) (cl := vwCl) (ci := ci) (C := w.1) (T := w.2.1) (N := w.2.2) hx hb hts h1 (tyOf ci) h2 h3 hown hKs.1 hP hD hS cc hent hr k (hn ▸ hk) (hts _ (mem_WS hw fld_good)) (fun x hx => by rw [h7 k (hn ▸ hk)] at hx; exact hx) (by rw [← h6]; exact hfq) (hini hin) (by rw [h7 k (hn ▸ hk), h4, hdc]) (h2 k (hn ▸ hk)) hn1 hf1 (by simp [hk]) hd (fun H1 locs1 g1 _ g3 => kk H1 locs1 g1 g3)
    rcases hk2 with ⟨x, rfl, hq, hk2⟩ | ⟨x, rfl, hq, hx1, hk2⟩ | ⟨a, rfl, hq, hk2⟩
    · refine key (.int x) rfl (by rw [fkd0 hq]; rfl) (by rw [fkd0 hq]; rfl) (fun H1 locs1 g1 g2 => ?_)
      rw [wd_setI hs (by rw [hq]; decide)] at g1
      exact hK _ _ _ _ _ _ _ _ _ hk2 ⟨g1, g2, hc, hz⟩ hl
    · refine key (.int x) rfl (by rw [fkd1 hq]; rcases hx1 with rfl | rfl <;> rfl) (by rw [fkd1 hq]; rcases hx1 with rfl | rfl <;> rfl) (fun H1 locs1 g1 g2 => ?_)
      rw [wd_setI hs (by rw [hq]; decide)] at g1
      exact hK _ _ _ _ _ _ _ _ _ hk2 ⟨g1, g2, hc, hz⟩ hl
    · refine key (.ref (B + a)) rfl (fkd2 hq _).1 (fkd2 hq _).2 (fun H1 locs1 g1 g2 => ?_)
      rw [wd_setPo hs hq] at g1
      exact hK _ _ _ _ _ _ _ _ _ hk2 ⟨g1, g2, hc, hz⟩ hl
  case iaload =>
    obtain ⟨rfl, ⟨i, cc, r, rfl, hc1, hs, hin, hk⟩ | ⟨i, a, r, len, xs, rfl, hsc, hin, hk⟩⟩ := h
    · exact va_iald hx hb hKs.1 hP cc 0 (by rw [wd_get hc1, ent_i hs (Or.inl rfl)]) rfl hin hd (hK _ _ _ _ _ _ _ _ _ hk hH hl)
    · obtain ⟨g1, g2, g3⟩ := hscr len xs hsc
      exact va_sld hx hb g1 g2 (Nat.not_le.mpr g3) hS hin hd (hK _ _ _ _ _ _ _ _ _ hk hH hl)
  case arraylength =>
    obtain ⟨rfl, a, r, len, xs, rfl, hsc, hk⟩ := h
    obtain ⟨g1, g2, g3⟩ := hscr len xs hsc
    exact va_slen hx hb g1 g2 (Nat.not_le.mpr g3) hS hd (hK _ _ _ _ _ _ _ _ _ hk hH hl)
  case aaload =>
    obtain ⟨rfl, i, cc, r, rfl, hc1, hs, hin, hk⟩ := h
    have h9 := hK _ _ _ _ _ _ _ _ _ hk hH hl
    rw [List.map_cons, vm_vrf] at h9
    exact va_aldq hx hb hKs.1 hP cc 2 (by rw [wd_get hc1, ent_q hs]) rfl hin hd h9
  case iastore =>
    obtain ⟨rfl, x, i, cc, r, rfl, hc1, hs, hin, hk⟩ := h
    refine va_iast hx hb hKs.1 hP hD hS cc 0 (by rw [wd_get hc1, ent_i hs (Or.inl rfl)]) rfl hin hd (fun H1 locs1 g1 _ g3 => ?_)
    rw [wd_setA hs (Or.inl rfl)] at g1
    exact hK _ _ _ _ _ _ _ _ _ hk ⟨g1, g3, hc, hz⟩ hl
  case aastore =>
    obtain ⟨rfl, a, i, cc, r, rfl, hc1, hs, hin, ha, hsa, hk⟩ := h
    refine va_astq hx hb hKs.1 hP hD hS cc 2 a 2 (r := (RX2, TX2, 15)) (by rw [wd_get hc1, ent_q hs]) rfl (by rw [wd_get ha, ent_o hsa]) rfl hin hd (fun H1 locs1 g1 _ g3 => ?_)
    rw [wd_setQ hs] at g1
    exact hK _ _ _ _ _ _ _ _ _ hk ⟨g1, g3, hc, hz⟩ hl
  case newarray t =>
    obtain ⟨rfl, z, r, rfl, ht, hsh, hneg, hsmall, hNT, hk⟩ := h
    have hszc : szc σ.1 = z.toNatClampNeg := by
      unfold szc; rw [hsh]
      cases t <;> first | rfl | (exfalso; revert ht; decide)
    have hcl : cells + 1 ≤ R.cells := by omega
    have hsl : slots + z.toNatClampNeg ≤ R.slots := by
      have h1 := SZ_mono (show σ.1 + 1 ≤ NT from hNT)
      rw [SZ_succ, hszc] at h1
      omega
    have hfin : HF B b dC dI dA N0 s (alc σ) H locs (cells + 1) (slots + z.toNatClampNeg) ∨ True := Or.inr trivial
    have hct : cells + 1 + N0 = (alc σ).1 := by show _ = σ.1 + 1; omega
    have hst : slots + z.toNatClampNeg + SZ N0 = SZ (alc σ).1 := by show _ = SZ (σ.1 + 1); rw [SZ_succ, hszc]; omega
    have key : ∀ (ty : FieldType) (k : Nat) (a0 : vp_A), newarray.typeOf t = ty → (Cond.arrayClass ty).before args s = true → (∀ cA : ClassId, vp_cell cA a0 = arrV cA z.toNatClampNeg (fun _ => defaultValue ty)) → z.toNatClampNeg * componentBytes ty ≤ 536870912 → (∀ cA, va_RA s cA ty → cA = dA k) → ent B b dA (alc σ) σ.1 = .inl (dA k, a0) → W p l e R s m args below meth c H locs cells slots Q (F0 m pc ls ((.int z :: r).map (vm B b))) := by
      intro ty k a0 hty harr ha hby hra hen
      subst hty
      refine va_newa hx hb harr rfl hKs.1 hP hD hS hA ha hneg rfl hby hcl hsl hd (fun q cA H1 gK gP gD gS => ?_)
      refine W_new hhs hc gP gD (fun hq => ?_)
      subst hq
      have hcA := hra cA (gK.2 3 (cA, newarray.typeOf t) rfl).2
      subst hcA
      rw [wd_alc hen] at gP
      exact hK _ _ _ _ _ _ _ _ _ hk ⟨gP, gS, hct, hst⟩ hl
    cases t <;> first | (exfalso; revert ht; decide) | skip
    · exact key .char 2 (z.toNatClampNeg, .inl (fun _ => 0)) rfl (hts _ (mem_WS (in_X (by decide)) ac_good)) (fun cA => rfl) (by show _ * 2 ≤ _; omega) (fun cA hc => Option.some.inj (hc.symm.trans (hKs.1.2 1 _ rfl).2)) (by rw [ent_i (t := 2) (by rw [hsh]; rfl) (Or.inr (Or.inl rfl)), hsh, alc_row.1])
    · exact key .int 1 (z.toNatClampNeg, .inl (fun _ => 0)) rfl (hts _ (mem_WS (in_X (by decide)) ac_good)) (fun cA => rfl) (by show _ * 4 ≤ _; omega) (fun cA hc => Option.some.inj (hc.symm.trans (hKs.1.2 0 _ rfl).2)) (by rw [ent_i (t := 1) (by rw [hsh]; rfl) (Or.inl rfl), hsh, alc_row.1])
  case anewarray ix =>
    obtain ⟨rfl, z, r, rfl, hnw, hsh, hneg, hsmall, hNT, hk⟩ := h
    have hszc : szc σ.1 = z.toNatClampNeg := by unfold szc; rw [hsh]; rfl
    have hcl : cells + 1 ≤ R.cells := by omega
    have hsl : slots + z.toNatClampNeg ≤ R.slots := by
      have h1 := SZ_mono (show σ.1 + 1 ≤ NT from hNT)
      rw [SZ_succ, hszc] at h1
      omega
    have hct : cells + 1 + N0 = (alc σ).1 := by show _ = σ.1 + 1; omega
    have hst : slots + z.toNatClampNeg + SZ N0 = SZ (alc σ).1 := by show _ = SZ (σ.1 + 1); rw [SZ_succ, hszc]; omega
    have hw := nwc_in hnw (.classLink (CN (mown y)) ix RX2) List.mem_cons_self
    refine va_newq hx hb hown (hts _ (mem_WS hw cl_good)) hKs.2.1 hKs.1 hP hD hS hA hneg rfl (by omega) hcl hsl hd (fun q cA H1 gK gP gD gS => ?_)
    refine W_new hhs hc gP gD (fun hq => ?_)
    subst hq
    have hcA : cA = dA 5 := by
      obtain ⟨_, _, _, _, _, e1⟩ := (gK.2 3 (cA, .object RX2) rfl).2
      obtain ⟨_, _, _, _, _, e2⟩ := (hKs.1.2 2 (dA 5, .object RX2) rfl).2
      exact Option.some.inj (e1.symm.trans e2)
    subst hcA
    rw [wd_alc (by rw [ent_q (by rw [hsh]), hsh, alc_row.2.1]; rfl)] at gP
    exact hK _ _ _ _ _ _ _ _ _ hk ⟨gP, gS, hct, hst⟩ hl
  case new ix =>
    obtain ⟨rfl, ci, hnw, hsh, hNT, hk⟩ := h
    obtain ⟨w, hw, hwn, hn⟩ := cl_some (nk_lt _ _ (find_in hnw))
    obtain ⟨h1, h2, h3, h4, h5, h6, h7⟩ := cl_ok hw
    have hci : ci < 4 := nk_lt _ _ (find_in hnw)
    have hwd := nwc_in hnw
    simp only [wNew, hw] at hwd
    have hszc : szc σ.1 = w.2.2 := by unfold szc; rw [hsh]; exact hn
    have hcl : cells + 1 ≤ R.cells := by omega
    have hsl : slots + w.2.2 ≤ R.slots := by
      have h1 := SZ_mono (show σ.1 + 1 ≤ NT from hNT)
      rw [SZ_succ, hszc] at h1
      omega
    have hct : cells + 1 + N0 = (alc σ).1 := by show _ = σ.1 + 1; omega
    have hst : slots + w.2.2 + SZ N0 = SZ (alc σ).1 := by show _ = SZ (σ.1 + 1); rw [SZ_succ, hszc]; omega
    refine va_new (D := (dC, dI)) (cl := vwCl) (ci := ci) (C := w.1) (T := w.2.1) (N := w.2.2) (fs := (List.range (nf ci)).map (fun k => vm B b (fv (alc σ) σ.1 ci k))) hx hb hts h1 (tyOf ci) h2 hown (hts _ (mem_WS (hwd _ List.mem_cons_self) cl_good)) (hts _ (mem_WS (hwd _ (List.mem_cons_of_mem _ List.mem_cons_self)) ins_good)) (hts _ (mem_WS (by rw [hwn]; exact in_init (by omega)) init_good)) hKs.1 hP hD hS hA hw (fun j hj => ?_) hcl hsl hd (fun q H1 gP gD gS => ?_)
    · rw [def_fv (B := B) (b := b) (σ := σ) (fkd_le ci hci j (hn ▸ hj))]
      simp [vp_V, hn, hj]
    · refine W_new hhs hc gP gD (fun hq => ?_)
      subst hq
      rw [wd_alc (ent_o hsh)] at gP
      exact hK _ _ _ _ _ _ _ _ _ hk ⟨gP, gS, hct, hst⟩ hl
  case invokevirtual ix =>
    obtain ⟨rfl, y1, as, cc, r, v, σ1, hlk, rfl, hlen, hc1, hs, hst, hcl, hN1, hk⟩ := h
    obtain ⟨hmono, hy1, d, hdd, hM⟩ := hcall _ _ _ _ _ hcl
    obtain ⟨f1, f2, f3, f4, f5⟩ := mt_facts y1 (Nat.lt_trans hy1 (by decide))
    have hw := lnk_in hlk
    obtain ⟨w, hwc, hwn, -⟩ := cl_some (show mown y1 < 4 by have := SH_lt cc (by rw [hs]); rw [hs] at this; exact this)
    have hSZ := SZ_mono hmono
    have hSZ2 := SZ_mono hN1
    have cb : CallB R s args (CN (mown y)) ix (mnm y1) (mcd y1) (mml y1) (mrt y1) (wsG y1) ({ frames := d, cells := σ1.1 - σ.1, slots := SZ σ1.1 - SZ σ.1, locals := 35 * d }) (σ1.1 - σ.1) (SZ σ1.1 - SZ σ.1) (mna y1) :=
      callB_of (mna y1) hts (wsG_in hy1) rfl rfl rfl (by rw [f1]; exact hts _ (mem_WS (in_init f5) init_good)) (hts _ (mem_WS (hw _ List.mem_cons_self) link_good)) f3 (show d + 1 ≤ R.frames ∧ 8 + (mml y1 + 11) + 35 * d ≤ R.locals by omega)
    rw [List.map_append, List.map_reverse, List.map_cons]
    refine callG (rest := r.map (vm B b)) (va_runV (C := (mnm y1).cls) (own := CN (mown y)) (b := B + cc) (As := as.map (vm B b)) (rest := r.map (vm B b)) ⟨hx, hb, hml, hown, hts⟩ hM ⟨cb, hts _ (mem_WS (hw _ (List.mem_cons_of_mem _ List.mem_cons_self)) inst_good), hts _ (mem_WS (hw _ (List.mem_cons_of_mem _ (List.mem_cons_of_mem _ List.mem_cons_self))) sel_good)⟩ ⟨PcG_blind, ?_, preG hsz hP hKs hS hscr⟩ rfl (by rw [List.length_map]; exact hlen) hl.1 rfl (lv_room (by rw [stw_vm]; exact hst)) hd ⟨by omega, by omega⟩) hS (by omega) (fun H1 locs1 g1 g2 => ?_)
    · rw [f1, ← hwn]
      exact va_recv hKs.1 hP hwc (by rw [wd_get hc1, ent_o hs])
    · have h9 := hK _ _ _ _ _ _ _ _ _ hk (⟨g1, g2, by omega, by omega⟩ : HF B b dC dI dA N0 s σ1 H1 locs1 (cells + (σ1.1 - σ.1)) (slots + (SZ σ1.1 - SZ σ.1))) hl
      cases v <;> exact h9
  case invokestatic ix =>
    obtain ⟨rfl, ⟨y1, as, r, v, σ1, kd, hlk, hkd, rfl, hlen, hst, hcl, hN1, hk⟩ | ⟨z, dp, c1, sp, c0, r, hlk, rfl, hst, hdd, hc0, hc1, hs0, hs1, q1, q2, q3, q4, q5, hk⟩ | ⟨f, r, hlk, rfl, hst, hdd, hk⟩ | ⟨a, b1, r, y1, hlk, rfl, hst, hdd, hnt, hk⟩⟩ := h
    · obtain ⟨hmono, hy1, d, hdd, hM⟩ := hcall _ _ _ _ _ hcl
      obtain ⟨f1, f2, f3, f4, f5⟩ := mt_facts y1 (Nat.lt_trans hy1 (by decide))
      have hw := lnk_in hlk
      have hSZ := SZ_mono hmono
      have hSZ2 := SZ_mono hN1
      rw [List.map_append, List.map_reverse]
      have fin : ∀ (H1 : Heap) (locs1 : List Loc), va_P (dC, dI) vwCl (wd B b dA σ1) H1 → va_S (fun q => B ≤ q) s.heap H1 locs1 → W p l e R s m args below meth c H1 locs1 (cells + (σ1.1 - σ.1)) (slots + (SZ σ1.1 - SZ σ.1)) Q (F0 m (pc + 3) ls ((v.map (vm B b)).toList ++ r.map (vm B b))) := by
        intro H1 locs1 g1 g2
        have h9 := hK _ _ _ _ _ _ _ _ _ hk (⟨g1, g2, by omega, by omega⟩ : HF B b dC dI dA N0 s σ1 H1 locs1 (cells + (σ1.1 - σ.1)) (slots + (SZ σ1.1 - SZ σ.1))) hl
        cases v <;> exact h9
      rcases hkd with rfl | rfl
      · have cb : CallB R s args (CN (mown y)) ix (mnm y1) (mcd y1) (mml y1) (mrt y1) (wsG y1) ({ frames := d, cells := σ1.1 - σ.1, slots := SZ σ1.1 - SZ σ.1, locals := 35 * d }) (σ1.1 - σ.1) (SZ σ1.1 - SZ σ.1) (mna y1) :=
          callB_of (mna y1) hts (wsG_in hy1) rfl rfl rfl (by rw [f1]; exact hts _ (mem_WS (in_init f5) init_good)) (hts _ (mem_WS (hw _ List.mem_cons_self) link_good)) f3 (show d + 1 ≤ R.frames ∧ 8 + (mml y1 + 11) + 35 * d ≤ R.locals by omega)
        exact callG (rest := r.map (vm B b)) (va_runS (own := CN (mown y)) (As := as.map (vm B b)) (rest := r.map (vm B b)) ⟨hx, hb, hml, hown, hts⟩ hM ⟨cb, hts _ (mem_WS (hw _ (List.mem_cons_of_mem _ List.mem_cons_self)) stat_good)⟩ ⟨PcG_blind, preG hsz hP hKs hS hscr⟩ rfl (by rw [List.length_map]; exact hlen) hl.1 rfl (lv_room (by rw [stw_vm]; exact hst)) hd ⟨by omega, by omega⟩) hS (by omega) fin
      · have cb : va_CN R s args (CN (mown y)) ix (mnm y1) RX3 (mcd y1) (mml y1) (mrt y1) (wsG y1) ({ frames := d, cells := σ1.1 - σ.1, slots := SZ σ1.1 - SZ σ.1, locals := 35 * d }) (σ1.1 - σ.1) (SZ σ1.1 - SZ σ.1) (mna y1) :=
          va_cnB (mna y1) hts (wsG_in hy1) rfl rfl rfl (hKs.2.2 _ (NST_in (mt_facts y hyN).2.2.2.2 hlk (Or.inl rfl))) (by rw [f1]; exact hts _ (mem_WS (in_init f5) init_good)) f3 (show d + 1 ≤ R.frames ∧ 8 + (mml y1 + 11) + 35 * d ≤ R.locals by omega)
        exact callG (rest := r.map (vm B b)) (va_runSN (own := CN (mown y)) (As := as.map (vm B b)) (rest := r.map (vm B b)) ⟨hx, hb, hml, hown, hts⟩ hM ⟨cb, hts _ (mem_WS (hw _ (List.mem_cons_of_mem _ List.mem_cons_self)) stat_good), trivial⟩ ⟨PcG_blind, preG hsz hP hKs hS hscr⟩ rfl (by rw [List.length_map]; exact hlen) hl.1 rfl (lv_room (by rw [stw_vm]; exact hst)) hd ⟨by omega, by omega⟩) hS (by omega) fin
    · have hw := lnk_in hlk
      have hnw : nativeFrameWords "java/lang/System" "arraycopy" 5 + 11 ≤ 27 := by decide
      refine va_copyi hx hb (hml.trans hl.1.symm) hown (hts _ (mem_WS (hw _ List.mem_cons_self) link_good)) (hts _ (mem_WS (hw _ (List.mem_cons_of_mem _ List.mem_cons_self)) nat_good)) (hts _ (mem_WS (hw _ (List.mem_cons_of_mem _ (List.mem_cons_of_mem _ List.mem_cons_self))) stat_good)) (hts _ (mem_WS (in_init (c := 6) (by decide)) init_good)) hKs.1 hP hD hS c0 c1 0 0 (by rw [wd_get hc0, ent_i hs0 (Or.inl rfl)]) (by rw [wd_get hc1, ent_i hs1 (Or.inl rfl)]) rfl rfl rfl q1 q2 q3 q4 q5 (fun _ _ => rfl) (by omega) (by rw [stw_vm]; omega) hd (fun H1 locs1 g1 _ g3 => ?_)
      rw [wd_cpy hs1] at g1
      exact hK _ _ _ _ _ _ _ _ _ hk ⟨g1, g3, hc, hz⟩ hl
    · have hw := lnk_in hlk
      exact vn_f2i hx hb (hml.trans hl.1.symm) hown (hts _ (mem_WS (hw _ List.mem_cons_self) link_good)) (hts _ (mem_WS (hw _ (List.mem_cons_of_mem _ List.mem_cons_self)) nat_good)) (hts _ (mem_WS (hw _ (List.mem_cons_of_mem _ (List.mem_cons_of_mem _ List.mem_cons_self))) stat_good)) (hts _ (mem_WS (in_init (c := 4) (by decide)) init_good)) (by omega) (by rw [stw_vm]; omega) hd (hK _ _ _ _ _ _ _ _ _ hk hH hl)
    · have hw := lnk_in hlk
      have hy1 : y1 = nJ9_max_7cf53 := (lk_init _ _ (find_in hlk)).2 rfl
      subst hy1
      obtain ⟨m1, m2, m3, m4⟩ := max_nm
      have hcode := mt_word (y := nJ9_max_7cf53) (by decide)
      rw [m1, m2, m3, m4] at hcode
      have hl1 := hw _ List.mem_cons_self
      have hl2 := hw _ (List.mem_cons_of_mem _ List.mem_cons_self)
      dsimp only at hl1 hl2
      rw [m1] at hl1 hl2
      exact va_mmax hx hb (hml.trans hl.1.symm) hown (hts _ (mem_WS hl1 link_good)) (hts _ (mem_WS hl2 stat_good)) (hts _ (mem_WS (in_init (c := 5) (by decide)) init_good)) (hts _ (mem_WS hcode (by first | rfl | simp [goodWord, Cond.onTables, Cond.keeps, Cond.steady]))) (by omega) (by rw [stw_vm]; omega) (by omega) (by have := SZ_mono hnt; omega) hd (hK _ _ _ _ _ _ _ _ _ hk hH hl)
  case invokespecial ix =>
    obtain ⟨rfl, ⟨y1, as, cc, r, σ1, kd, hlk, hkd, rfl, hlen, hst, hcl, hN1, hk⟩ | ⟨cc, r, hlk, rfl, hst, hdd, hk⟩⟩ := h
    · obtain ⟨hmono, hy1, d, hdd, hM⟩ := hcall _ _ _ _ _ hcl
      obtain ⟨f1, f2, f3, f4, f5⟩ := mt_facts y1 (Nat.lt_trans hy1 (by decide))
      have hw := lnk_in hlk
      have hSZ := SZ_mono hmono
      have hSZ2 := SZ_mono hN1
      obtain ⟨hr0, hnm1⟩ := (lk_init _ _ (find_in hlk)).1 (by rcases hkd with rfl | rfl <;> simp)
      dsimp only at hr0 hnm1
      rw [List.map_append, List.map_reverse, List.map_cons]
      have fin : ∀ (H1 : Heap) (locs1 : List Loc), va_P (dC, dI) vwCl (wd B b dA σ1) H1 → va_S (fun q => B ≤ q) s.heap H1 locs1 → W p l e R s m args below meth c H1 locs1 (cells + (σ1.1 - σ.1)) (slots + (SZ σ1.1 - SZ σ.1)) Q (F0 m (pc + 3) ls (((none : Option Value).map (vm B b)).toList ++ r.map (vm B b))) := by
        intro H1 locs1 g1 g2
        exact hK _ _ _ _ _ _ _ _ _ hk (⟨g1, g2, by omega, by omega⟩ : HF B b dC dI dA N0 s σ1 H1 locs1 (cells + (σ1.1 - σ.1)) (slots + (SZ σ1.1 - SZ σ.1))) hl
      rcases hkd with rfl | rfl
      · have cb : CallB R s args (CN (mown y)) ix (mnm y1) (mcd y1) (mml y1) none (wsG y1) ({ frames := d, cells := σ1.1 - σ.1, slots := SZ σ1.1 - SZ σ.1, locals := 35 * d }) (σ1.1 - σ.1) (SZ σ1.1 - SZ σ.1) (mna y1) :=
          callB_of (mna y1) hts (wsG_in hy1) (by unfold wsG; rw [hr0]) rfl rfl (by rw [f1]; exact hts _ (mem_WS (in_init f5) init_good)) (hts _ (mem_WS (hw _ List.mem_cons_self) link_good)) f3 (show d + 1 ≤ R.frames ∧ 8 + (mml y1 + 11) + 35 * d ≤ R.locals by omega)
        exact callG (rest := r.map (vm B b)) (va_runI (own := CN (mown y)) (b := B + cc) (As := as.map (vm B b)) (rest := r.map (vm B b)) ⟨hx, hb, hml, hown, hts⟩ hM ⟨cb, hnm1, hts _ (mem_WS (hw _ (List.mem_cons_of_mem _ List.mem_cons_self)) inst_good)⟩ ⟨PcG_blind, preG hsz hP hKs hS hscr⟩ rfl (by rw [List.length_map]; exact hlen) hl.1 rfl (lv_room (by rw [stw_vm]; exact hst)) hd ⟨by omega, by omega⟩) hS (by omega) fin
      · have cb : va_CN R s args (CN (mown y)) ix (mnm y1) RX3 (mcd y1) (mml y1) none (wsG y1) ({ frames := d, cells := σ1.1 - σ.1, slots := SZ σ1.1 - SZ σ.1, locals := 35 * d }) (σ1.1 - σ.1) (SZ σ1.1 - SZ σ.1) (mna y1) :=
          va_cnB (mna y1) hts (wsG_in hy1) (by unfold wsG; rw [hr0]) rfl rfl (hKs.2.2 _ (NST_in (mt_facts y hyN).2.2.2.2 hlk (Or.inr rfl))) (by rw [f1]; exact hts _ (mem_WS (in_init f5) init_good)) f3 (show d + 1 ≤ R.frames ∧ 8 + (mml y1 + 11) + 35 * d ≤ R.locals by omega)
        exact callG (rest := r.map (vm B b)) (va_runIN (own := CN (mown y)) (b := B + cc) (As := as.map (vm B b)) (rest := r.map (vm B b)) ⟨hx, hb, hml, hown, hts⟩ hM ⟨cb, hnm1, hts _ (mem_WS (hw _ (List.mem_cons_of_mem _ List.mem_cons_self)) inst_good)⟩ ⟨PcG_blind, preG hsz hP hKs hS hscr⟩ rfl (by rw [List.length_map]; exact hlen) hl.1 rfl (lv_room (by rw [stw_vm]; exact hst)) hd ⟨by omega, by omega⟩) hS (by omega) fin
    · have hw := lnk_in hlk
      refine W.objInit hx hb hown (hts _ (mem_WS (hw _ List.mem_cons_self) link_good)) (hts _ (mem_WS (hw _ (List.mem_cons_of_mem _ List.mem_cons_self)) inst_good)) (hts _ (mem_WS (in_X (by decide)) ocode_good)) rfl (hl.1.trans hml.symm) rfl hd (by omega) ?_ (hK _ _ _ _ _ _ _ _ _ hk hH hl)
      show 2 * 0 + _ + 12 ≤ _
      rw [stw_vm]
      omega
end SN
end
section
/-! SOUNDNESS: a run, a call -/
section EX
variable {p : Program} {l : Launch} {e : Env} {R : Room} {s : State} {m : MethodId} {args : Array Value} {below : List Frame} {meth : Method} {c : Code} {Q : State → Prop}
variable {B b : Nat} {dC : Nat → ClassId} {dI : Nat → Nat → Nat} {dA : Nat → ClassId} {N0 dd NT y : Nat} {scr : Option (Nat × (Nat → Int32))} {call : Cal} {Q1 : Option Value → Mm → Prop}
theorem run_snd (hF : FX p l R s m args meth c B b dC dI dA N0 dd NT y scr call)
    (hQ : ∀ (pc : Nat) (σ : Mm) (H : Heap) (locs : List Loc) (cells slots : Nat) (ls : Array Slot) (v : Option Value), Q1 v σ → RetOk y pc v → HF B b dC dI dA N0 s σ H locs cells slots → W p l e R s m args below meth c H locs cells slots Q (F0 m pc ls (v.toList.map (vm B b)))) :
    ∀ (n pc : Nat) (L : Lc) (st : List Value) (σ : Mm) (H : Heap) (locs : List Loc) (cells slots : Nat) (ls : Array Slot), runP dd NT call scr y Q1 n pc L st σ → HF B b dC dI dA N0 s σ H locs cells slots → lv_has ls (mml y) (lvm B b L) → W p l e R s m args below meth c H locs cells slots Q (F0 m pc ls (st.map (vm B b)))
  | 0, _, _, _, _, _, _, _, _, _, h, _, _ => h.elim
  | n + 1, _, _, _, _, _, _, _, _, _, h, hH, hl => step_snd hF (run_snd hF hQ n) hQ h hH hl
theorem lv_args_vm : ∀ (i : Nat) (as : List Value), lv_args i (as.map (vm B b)) = lvm B b (lv_args i as)
  | _, [] => rfl
  | i, v :: vs => by
    show (i, vm B b v) :: lv_args (if (vm B b v).category = 2 then i + 2 else i + 1) (vs.map (vm B b)) = (i, vm B b v) :: lvm B b (lv_args (if v.category = 2 then i + 2 else i + 1) vs)
    rw [vm_cat, lv_args_vm]
theorem lg_len : ∀ (vs : List Value), (lg_sl vs).length = stw vs
  | [] => rfl
  | v :: vs => by
    have h := lg_len vs
    unfold lg_sl stw at h ⊢
    rw [List.flatMap_cons, List.length_append, List.map_cons, List.sum_cons, h]
    congr 1
    cases v <;> rfl
theorem exec_met : ∀ (d : Nat) (y : Nat) (as : List Value) (σ : Mm) (r : Option Value) (σ1 : Mm), ExecS scr d y as σ r σ1 → σ.1 ≤ σ1.1 ∧ y < yLAW ∧ ∃ d1, d1 + 1 ≤ d ∧ CT l B b dC dI dA scr d1 y as σ r σ1
  | 0, _, _, _, _, _, h => h.elim
  | d + 1, y, as, σ, r, σ1, ⟨hm, hy, hw, n, hrun⟩ => by
    refine ⟨hm, hy, d, Nat.le_refl _, ?_⟩
    have hyN : y < NM := Nat.lt_trans hy (by decide)
    obtain ⟨f1, f2, f3, f4, f5⟩ := mt_facts y hyN
    refine va_MetF (cc := mcd y) (maxL := mml y) (ret := mrt y) (ws' := WS) f2 rfl ?_
    intro p e s m args below meth c s₁ BB hml hv
    obtain ⟨rfl, ⟨hsz, hP, hK⟩, hsc⟩ := hv
    have hts : ∀ w ∈ wsG y, w.before (as.map (vm B b)).toArray s = true := atoms_spec (ws := wsG y) BB.pre
    have hown : s.vm.findClass (CN (mown y)) = some m.cls := by rw [← f1]; exact findClass_of_methodNamed BB.named
    have hl := lv_entry (as.map (vm B b)) (n := mml y) (by rw [lg_len]; unfold stw; rw [stw_vm]; exact hw)
    rw [lg_entry_eq]
    generalize (lg_sl (as.map (vm B b)) ++ List.replicate (mml y - (lg_sl (as.map (vm B b))).length) Slot.unset).toArray = ls at hl ⊢
    rw [lv_args_vm] at hl
    have hSZ := SZ_mono hm
    have hF : FX p l ({ frames := d, cells := σ1.1 - σ.1, slots := SZ σ1.1 - SZ σ.1, locals := 35 * d } : Room) s m (as.map (vm B b)).toArray meth c B b dC dI dA σ.1 d σ1.1 y scr (ExecS scr d) :=
      ⟨BB.exec, BB.bytes, hml, hown, fun h => (name_of_methodNamed BB.named BB.method).1.trans h, hyN, fun w hw => hts w (List.mem_cons_of_mem _ hw), Nat.le_refl _, Nat.le_refl _, by show σ1.1 ≤ σ.1 + (σ1.1 - σ.1); omega, by show SZ σ1.1 ≤ SZ σ.1 + (SZ σ1.1 - SZ σ.1); omega, hK, hsz, hsc, fun y1 as1 σ2 v σ3 h => exec_met d y1 as1 σ2 v σ3 h⟩
    have hH : HF B b dC dI dA σ.1 s σ s.heap [] 0 0 := ⟨hP, va_S.rf, Nat.zero_add _, Nat.zero_add _⟩
    refine run_snd hF ?_ n 0 (lv_args 0 as) [] σ s.heap [] 0 0 ls hrun hH hl
    rintro pc σ2 H locs cells slots ls2 v ⟨rfl, rfl⟩ hret hH2
    refine W_size hsz hH2 (fun hsz2 => ?_)
    obtain ⟨hP2, hS2, hc2, hs2⟩ := hH2
    have e1 : σ2.1 - σ.1 = cells := by omega
    have e2 : SZ σ2.1 - SZ σ.1 = slots := by omega
    rw [e1, e2]
    have hq : ∀ t : State, t.heap = H → s.WarmedH t.vm → QcG B b dC dI dA v σ2 (as.map (vm B b)).toArray s (.returned (v.map (vm B b))) t := fun t ht _ => ⟨rfl, by rw [ht]; exact hsz2, by rw [ht]; exact hP2, fun q hq => by rw [ht]; exact hS2.2.1 q (by omega) (Nat.not_le.mpr hq)⟩
    match v, hret, hq with
    | none, hret, hq => exact W.vret BB.exec BB.bytes (BB.returns.trans hret.2) hq hS2.2.2 hret.1 BB.notSynchronized
    | some (.int x), hret, hq =>
      rcases hret.2 with hi | ⟨hb, h01⟩
      · exact W.iret BB.exec BB.bytes (BB.returns.trans hi) hq hS2.2.2 hret.1 BB.notSynchronized
      · exact W.zret (ty := .boolean) BB.exec BB.bytes (BB.returns.trans hb) (by rcases h01 with rfl | rfl <;> rfl) hq hS2.2.2 hret.1 BB.notSynchronized
    | some (.double x), hret, hq => exact W.dret BB.exec BB.bytes (BB.returns.trans hret.2) hq hS2.2.2 hret.1 BB.notSynchronized
    | some (.long x), hret, hq => exact hret.elim
    | some (.float x), hret, hq => exact hret.elim
    | some .null, hret, hq => exact hret.elim
    | some (.ref x), hret, hq => exact hret.elim
    | some (.retAddr x), hret, hq => exact hret.elim
end EX
end

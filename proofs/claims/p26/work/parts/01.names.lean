-- ===== PART A: goes FIRST, ahead of the names: the tables' words, and 'selects' of the private methods out of them =====
/-- a private method of a class that the tables say can be made, by its rows of tables_1 -/
def lw_okq (q : MethodName × Nat) : Prop := (q.1.cls ≠ "java/lang/invoke/MethodHandle" ∧ q.1.cls ≠ "java/lang/invoke/VarHandle") ∧ Cond.instantiable q.1.cls q.2 ∈ tables_1 ∧ Cond.privateMethod q.1 ∈ tables_1 ∧ Cond.instanceMethod q.1 ∈ tables_1
theorem lw_p0 : lw_okq (⟨"DrawerCabinet", "recordState", "()V"⟩, 8) := ⟨⟨by decide +kernel, by decide +kernel⟩, List.mem_of_getElem? (i := 9) (by decide +kernel), List.mem_of_getElem? (i := 176) (by decide +kernel), List.mem_of_getElem? (i := 177) (by decide +kernel)⟩
theorem lw_p1 : lw_okq (⟨"DrawerCabinet", "dropOldest", "()V"⟩, 8) := ⟨⟨by decide +kernel, by decide +kernel⟩, List.mem_of_getElem? (i := 9) (by decide +kernel), List.mem_of_getElem? (i := 180) (by decide +kernel), List.mem_of_getElem? (i := 181) (by decide +kernel)⟩
theorem lw_p2 : lw_okq (⟨"DrawerCabinet", "canComeTo", "(I)Z"⟩, 8) := ⟨⟨by decide +kernel, by decide +kernel⟩, List.mem_of_getElem? (i := 9) (by decide +kernel), List.mem_of_getElem? (i := 234) (by decide +kernel), List.mem_of_getElem? (i := 235) (by decide +kernel)⟩
theorem lw_p3 : lw_okq (⟨"DrawerCabinet$State", "makeSteps", "()Z"⟩, 15) := ⟨⟨by decide +kernel, by decide +kernel⟩, List.mem_of_getElem? (i := 17) (by decide +kernel), List.mem_of_getElem? (i := 242) (by decide +kernel), List.mem_of_getElem? (i := 243) (by decide +kernel)⟩
theorem lw_p4 : lw_okq (⟨"DrawerCabinet$State", "isLetByHold", "(I)Z"⟩, 15) := ⟨⟨by decide +kernel, by decide +kernel⟩, List.mem_of_getElem? (i := 17) (by decide +kernel), List.mem_of_getElem? (i := 258) (by decide +kernel), List.mem_of_getElem? (i := 259) (by decide +kernel)⟩
theorem lw_p5 : lw_okq (⟨"DrawerCabinet$Plan", "addWayInto", "(LDrawerCabinet$State;I)V"⟩, 3) := ⟨⟨by decide +kernel, by decide +kernel⟩, List.mem_of_getElem? (i := 92) (by decide +kernel), List.mem_of_getElem? (i := 291) (by decide +kernel), List.mem_of_getElem? (i := 292) (by decide +kernel)⟩
theorem lw_p6 : lw_okq (⟨"DrawerCabinet$Plan", "addOpening", "(LDrawerCabinet$State;I)V"⟩, 3) := ⟨⟨by decide +kernel, by decide +kernel⟩, List.mem_of_getElem? (i := 92) (by decide +kernel), List.mem_of_getElem? (i := 296) (by decide +kernel), List.mem_of_getElem? (i := 297) (by decide +kernel)⟩
theorem lw_p7 : lw_okq (⟨"DrawerCabinet$Plan", "addNeedsOfAll", "(LDrawerCabinet$State;)V"⟩, 3) := ⟨⟨by decide +kernel, by decide +kernel⟩, List.mem_of_getElem? (i := 92) (by decide +kernel), List.mem_of_getElem? (i := 319) (by decide +kernel), List.mem_of_getElem? (i := 320) (by decide +kernel)⟩
theorem lw_p8 : lw_okq (⟨"DrawerCabinet$Plan", "addNeedsOfOpening", "(LDrawerCabinet$State;I)V"⟩, 3) := ⟨⟨by decide +kernel, by decide +kernel⟩, List.mem_of_getElem? (i := 92) (by decide +kernel), List.mem_of_getElem? (i := 326) (by decide +kernel), List.mem_of_getElem? (i := 327) (by decide +kernel)⟩
theorem lw_p9 : lw_okq (⟨"DrawerCabinet$Plan", "addTaking", "(LDrawerCabinet$State;I)V"⟩, 3) := ⟨⟨by decide +kernel, by decide +kernel⟩, List.mem_of_getElem? (i := 92) (by decide +kernel), List.mem_of_getElem? (i := 330) (by decide +kernel), List.mem_of_getElem? (i := 331) (by decide +kernel)⟩
theorem lw_p10 : lw_okq (⟨"DrawerCabinet$Plan", "isLiftingIn", "(LDrawerCabinet$State;I)Z"⟩, 3) := ⟨⟨by decide +kernel, by decide +kernel⟩, List.mem_of_getElem? (i := 92) (by decide +kernel), List.mem_of_getElem? (i := 335) (by decide +kernel), List.mem_of_getElem? (i := 336) (by decide +kernel)⟩
theorem lw_p11 : lw_okq (⟨"DrawerCabinet$Plan", "addNeedsOfTaking", "(LDrawerCabinet$State;I)V"⟩, 3) := ⟨⟨by decide +kernel, by decide +kernel⟩, List.mem_of_getElem? (i := 92) (by decide +kernel), List.mem_of_getElem? (i := 339) (by decide +kernel), List.mem_of_getElem? (i := 340) (by decide +kernel)⟩
theorem lw_p12 : lw_okq (⟨"DrawerCabinet", "neverOpened", "()I"⟩, 8) := ⟨⟨by decide +kernel, by decide +kernel⟩, List.mem_of_getElem? (i := 9) (by decide +kernel), List.mem_of_getElem? (i := 373) (by decide +kernel), List.mem_of_getElem? (i := 374) (by decide +kernel)⟩
def lw_privs_1 : List (MethodName × Nat) := [(⟨"DrawerCabinet", "recordState", "()V"⟩, 8), (⟨"DrawerCabinet", "dropOldest", "()V"⟩, 8), (⟨"DrawerCabinet", "canComeTo", "(I)Z"⟩, 8), (⟨"DrawerCabinet$State", "makeSteps", "()Z"⟩, 15), (⟨"DrawerCabinet$State", "isLetByHold", "(I)Z"⟩, 15), (⟨"DrawerCabinet$Plan", "addWayInto", "(LDrawerCabinet$State;I)V"⟩, 3), (⟨"DrawerCabinet$Plan", "addOpening", "(LDrawerCabinet$State;I)V"⟩, 3), (⟨"DrawerCabinet$Plan", "addNeedsOfAll", "(LDrawerCabinet$State;)V"⟩, 3), (⟨"DrawerCabinet$Plan", "addNeedsOfOpening", "(LDrawerCabinet$State;I)V"⟩, 3), (⟨"DrawerCabinet$Plan", "addTaking", "(LDrawerCabinet$State;I)V"⟩, 3), (⟨"DrawerCabinet$Plan", "isLiftingIn", "(LDrawerCabinet$State;I)Z"⟩, 3), (⟨"DrawerCabinet$Plan", "addNeedsOfTaking", "(LDrawerCabinet$State;I)V"⟩, 3), (⟨"DrawerCabinet", "neverOpened", "()I"⟩, 8)]
theorem lw_r1 : ∀ q ∈ lw_privs_1, lw_okq q := List.forall_mem_cons.mpr ⟨lw_p0, List.forall_mem_cons.mpr ⟨lw_p1, List.forall_mem_cons.mpr ⟨lw_p2, List.forall_mem_cons.mpr ⟨lw_p3, List.forall_mem_cons.mpr ⟨lw_p4, List.forall_mem_cons.mpr ⟨lw_p5, List.forall_mem_cons.mpr ⟨lw_p6, List.forall_mem_cons.mpr ⟨lw_p7, List.forall_mem_cons.mpr ⟨lw_p8, List.forall_mem_cons.mpr ⟨lw_p9, List.forall_mem_cons.mpr ⟨lw_p10, List.forall_mem_cons.mpr ⟨lw_p11, List.forall_mem_cons.mpr ⟨lw_p12, fun _ h => absurd h List.not_mem_nil⟩⟩⟩⟩⟩⟩⟩⟩⟩⟩⟩⟩⟩
def lw_privs : List (MethodName × Nat) := lw_privs_1
def lw_tbl : List Cond := k2_sels lw_privs ++ tables_1
theorem lw_privs_ok : ∀ q ∈ lw_privs, lw_okq q := lw_r1
/-- the streams that the claim lets the run draw from -/
abbrev lw_cs : List Choice := [Jvm.Choice.named "NaN.bits"]
theorem lw_bits : nanBits ∈ lw_cs := by first | decide | exact List.mem_cons_self | simp [lw_cs, nanBits]
/-! ===== BEGIN words of one list among another's, by their places ===== -/
theorem goodIn_r {big : List Cond} (ws : List Cond) (ps : List Nat) (hp : ws = ps.filterMap (fun i => big[i]?)) (h : ws.all goodWord = true) : GoodIn big ws := by
  intro w hw
  have h1 := List.all_eq_true.mp h w hw
  rw [hp] at hw
  obtain ⟨i, -, hi⟩ := List.mem_filterMap.mp hw
  have hm : w ∈ big := by first | exact List.mem_of_getElem? hi | exact List.getElem?_mem hi
  exact ⟨hm, good_of_word h1⟩
theorem goodIn_app {big a b : List Cond} (ha : GoodIn big a) (hb : GoodIn big b) : GoodIn big (a ++ b) := fun w h => (List.mem_append.mp h).elim (ha w) (hb w)
theorem goodIn_ca {big a b : List Cond} {c : Cond} (ha : GoodIn big (c :: a)) (hb : GoodIn big b) : GoodIn big (c :: (a ++ b)) := fun w h => (List.mem_cons.mp h).elim (fun e => ha w (List.mem_cons.mpr (Or.inl e))) (fun h => (List.mem_append.mp h).elim (fun h => ha w (List.mem_cons.mpr (Or.inr h))) (hb w))
theorem goodIn_sub {big ws : List Cond} (hm : ∀ w ∈ ws, w ∈ big) (h : ws.all goodWord = true) : GoodIn big ws := fun w hw => ⟨hm w hw, good_of_word (List.all_eq_true.mp h w hw)⟩
/-! ===== END ===== -/

/-! ===== BEGIN printed: names, fields, word lists, decode rows ===== -/
def RX0 : String := "DrawerCabinet$DrawerText"
def TX0 : u_T := fun k => match k with
  | 0 => ("DrawerCabinet$DrawerText", "signs", "[C", true)
  | 1 => ("DrawerCabinet$DrawerText", "length", "I", false)
  | 2 => ("DrawerCabinet$DrawerText", "at", "I", false)
  | 3 => ("DrawerCabinet$DrawerText", "found", "I", false)
  | 4 => ("DrawerCabinet$DrawerText", "outer", "[I", true)
  | 5 => ("DrawerCabinet$DrawerText", "hold", "[I", true)
  | 6 => ("DrawerCabinet$DrawerText", "by", "[I", true)
  | _ => ("DrawerCabinet$DrawerText", "bottoms", "[I", true)
def tyX0 : Nat → FieldType := fun k => match k with
  | 0 => .array .char
  | 1 => .int
  | 2 => .int
  | 3 => .int
  | 4 => .array .int
  | 5 => .array .int
  | 6 => .array .int
  | _ => .array .int
abbrev wsX00 : List Cond := u_ws RX0 TX0 8
theorem nmX0 : ∀ a, a < 8 → ∀ b, b < 8 → a ≠ b → (TX0 a).2.1 ≠ (TX0 b).2.1 := by decide +kernel
theorem tyX0_ok : ∀ k, k < 8 → parseFieldDescriptor (TX0 k).2.2.1 = some (tyX0 k) := by decide +kernel
abbrev cX0_init : ByteArray := prog_2_method_1_code
def yX0_init : MethodName := ⟨RX0, "<init>", "()V"⟩
def RX1 : String := "DrawerCabinet$Plan"
def TX1 : u_T := fun k => match k with
  | 0 => ("DrawerCabinet$Plan", "openings", "I", false)
  | 1 => ("DrawerCabinet$Plan", "takings", "I", false)
  | _ => ("DrawerCabinet$Plan", "liftedTo", "[I", true)
def tyX1 : Nat → FieldType := fun k => match k with
  | 0 => .int
  | 1 => .int
  | _ => .array .int
abbrev wsX10 : List Cond := u_ws RX1 TX1 3
theorem nmX1 : ∀ a, a < 3 → ∀ b, b < 3 → a ≠ b → (TX1 a).2.1 ≠ (TX1 b).2.1 := by decide +kernel
theorem tyX1_ok : ∀ k, k < 3 → parseFieldDescriptor (TX1 k).2.2.1 = some (tyX1 k) := by decide +kernel
abbrev cX1_init : ByteArray := prog_3_method_1_code
def yX1_init : MethodName := ⟨RX1, "<init>", "()V"⟩
abbrev cX1_make : ByteArray := prog_3_method_2_code
def yX1_make : MethodName := ⟨RX1, "make", "(LDrawerCabinet$State;I)V"⟩
abbrev cX1_countSteps : ByteArray := prog_3_method_3_code
def yX1_countSteps : MethodName := ⟨RX1, "countSteps", "(LDrawerCabinet$State;)I"⟩
abbrev cX1_countLiftings : ByteArray := prog_3_method_4_code
def yX1_countLiftings : MethodName := ⟨RX1, "countLiftings", "(LDrawerCabinet$State;)I"⟩
abbrev cX1_firstStep : ByteArray := prog_3_method_5_code
def yX1_firstStep : MethodName := ⟨RX1, "firstStep", "(LDrawerCabinet$State;)I"⟩
abbrev cX1_isLiftingIn : ByteArray := prog_3_method_6_code
def yX1_isLiftingIn : MethodName := ⟨RX1, "isLiftingIn", "(LDrawerCabinet$State;I)Z"⟩
abbrev cX1_addNeedsOfAll : ByteArray := prog_3_method_7_code
def yX1_addNeedsOfAll : MethodName := ⟨RX1, "addNeedsOfAll", "(LDrawerCabinet$State;)V"⟩
abbrev cX1_addWayInto : ByteArray := prog_3_method_8_code
def yX1_addWayInto : MethodName := ⟨RX1, "addWayInto", "(LDrawerCabinet$State;I)V"⟩
abbrev cX1_addNeedsOfOpening : ByteArray := prog_3_method_9_code
def yX1_addNeedsOfOpening : MethodName := ⟨RX1, "addNeedsOfOpening", "(LDrawerCabinet$State;I)V"⟩
abbrev cX1_addNeedsOfTaking : ByteArray := prog_3_method_10_code
def yX1_addNeedsOfTaking : MethodName := ⟨RX1, "addNeedsOfTaking", "(LDrawerCabinet$State;I)V"⟩
abbrev cX1_addOpening : ByteArray := prog_3_method_11_code
def yX1_addOpening : MethodName := ⟨RX1, "addOpening", "(LDrawerCabinet$State;I)V"⟩
abbrev cX1_addTaking : ByteArray := prog_3_method_12_code
def yX1_addTaking : MethodName := ⟨RX1, "addTaking", "(LDrawerCabinet$State;I)V"⟩
def RX2 : String := "DrawerCabinet$State"
def TX2 : u_T := fun k => match k with
  | 0 => ("DrawerCabinet$State", "drawers", "I", false)
  | 1 => ("DrawerCabinet$State", "game", "Z", false)
  | 2 => ("DrawerCabinet$State", "steps", "I", false)
  | 3 => ("DrawerCabinet$State", "quarters", "I", false)
  | 4 => ("DrawerCabinet$State", "opened", "I", false)
  | 5 => ("DrawerCabinet$State", "broken", "I", false)
  | 6 => ("DrawerCabinet$State", "inHand", "I", false)
  | 7 => ("DrawerCabinet$State", "outer", "[I", true)
  | 8 => ("DrawerCabinet$State", "hold", "[I", true)
  | 9 => ("DrawerCabinet$State", "by", "[I", true)
  | 10 => ("DrawerCabinet$State", "stiffness", "[I", true)
  | 11 => ("DrawerCabinet$State", "bottoms", "[I", true)
  | 12 => ("DrawerCabinet$State", "lifted", "[I", true)
  | 13 => ("DrawerCabinet$State", "place", "[I", true)
  | _ => ("DrawerCabinet$State", "depth", "[I", true)
def tyX2 : Nat → FieldType := fun k => match k with
  | 0 => .int
  | 1 => .boolean
  | 2 => .int
  | 3 => .int
  | 4 => .int
  | 5 => .int
  | 6 => .int
  | 7 => .array .int
  | 8 => .array .int
  | 9 => .array .int
  | 10 => .array .int
  | 11 => .array .int
  | 12 => .array .int
  | 13 => .array .int
  | _ => .array .int
abbrev wsX20 : List Cond := u_ws RX2 TX2 15
theorem nmX2 : ∀ a, a < 15 → ∀ b, b < 15 → a ≠ b → (TX2 a).2.1 ≠ (TX2 b).2.1 := by decide +kernel
theorem tyX2_ok : ∀ k, k < 15 → parseFieldDescriptor (TX2 k).2.2.1 = some (tyX2 k) := by decide +kernel
abbrev cX2_init : ByteArray := prog_4_method_1_code
def yX2_init : MethodName := ⟨RX2, "<init>", "()V"⟩
abbrev cX2_copyFrom : ByteArray := prog_4_method_2_code
def yX2_copyFrom : MethodName := ⟨RX2, "copyFrom", "(LDrawerCabinet$State;)V"⟩
abbrev cX2_addDrawer : ByteArray := prog_4_method_3_code
def yX2_addDrawer : MethodName := ⟨RX2, "addDrawer", "(IIIII)V"⟩
abbrev cX2_changeBottoms : ByteArray := prog_4_method_4_code
def yX2_changeBottoms : MethodName := ⟨RX2, "changeBottoms", "(II)V"⟩
abbrev cX2_putBack : ByteArray := prog_4_method_5_code
def yX2_putBack : MethodName := ⟨RX2, "putBack", "()V"⟩
abbrev cX2_isThere : ByteArray := prog_4_method_6_code
def yX2_isThere : MethodName := ⟨RX2, "isThere", "(I)Z"⟩
abbrev cX2_isOpen : ByteArray := prog_4_method_7_code
def yX2_isOpen : MethodName := ⟨RX2, "isOpen", "(I)Z"⟩
abbrev cX2_isInHand : ByteArray := prog_4_method_8_code
def yX2_isInHand : MethodName := ⟨RX2, "isInHand", "(I)Z"⟩
abbrev cX2_isReached : ByteArray := prog_4_method_9_code
def yX2_isReached : MethodName := ⟨RX2, "isReached", "(I)Z"⟩
abbrev cX2_canOpen : ByteArray := prog_4_method_10_code
def yX2_canOpen : MethodName := ⟨RX2, "canOpen", "(I)Z"⟩
abbrev cX2_isLetByHold : ByteArray := prog_4_method_11_code
def yX2_isLetByHold : MethodName := ⟨RX2, "isLetByHold", "(I)Z"⟩
abbrev cX2_hasBottomLeft : ByteArray := prog_4_method_12_code
def yX2_hasBottomLeft : MethodName := ⟨RX2, "hasBottomLeft", "(I)Z"⟩
abbrev cX2_canLift : ByteArray := prog_4_method_13_code
def yX2_canLift : MethodName := ⟨RX2, "canLift", "(I)Z"⟩
abbrev cX2_canTake : ByteArray := prog_4_method_14_code
def yX2_canTake : MethodName := ⟨RX2, "canTake", "(I)Z"⟩
abbrev cX2_canSeal : ByteArray := prog_4_method_15_code
def yX2_canSeal : MethodName := ⟨RX2, "canSeal", "(I)Z"⟩
abbrev cX2_setOpen : ByteArray := prog_4_method_16_code
def yX2_setOpen : MethodName := ⟨RX2, "setOpen", "(I)V"⟩
abbrev cX2_addStep : ByteArray := prog_4_method_17_code
def yX2_addStep : MethodName := ⟨RX2, "addStep", "(I)V"⟩
abbrev cX2_makeAllSteps : ByteArray := prog_4_method_18_code
def yX2_makeAllSteps : MethodName := ⟨RX2, "makeAllSteps", "()V"⟩
abbrev cX2_makeSteps : ByteArray := prog_4_method_19_code
def yX2_makeSteps : MethodName := ⟨RX2, "makeSteps", "()Z"⟩
abbrev cX2_hasAllHolders : ByteArray := prog_4_method_20_code
def yX2_hasAllHolders : MethodName := ⟨RX2, "hasAllHolders", "()Z"⟩
abbrev cX2_openableNow : ByteArray := prog_4_method_21_code
def yX2_openableNow : MethodName := ⟨RX2, "openableNow", "()I"⟩
abbrev cX2_countWholeSeals : ByteArray := prog_4_method_22_code
def yX2_countWholeSeals : MethodName := ⟨RX2, "countWholeSeals", "(I)I"⟩
abbrev cX2_countThingsInDrawers : ByteArray := prog_4_method_23_code
def yX2_countThingsInDrawers : MethodName := ⟨RX2, "countThingsInDrawers", "()I"⟩
abbrev cX2_countThingsIn : ByteArray := prog_4_method_24_code
def yX2_countThingsIn : MethodName := ⟨RX2, "countThingsIn", "(I)I"⟩
abbrev cX2_countOuters : ByteArray := prog_4_method_25_code
def yX2_countOuters : MethodName := ⟨RX2, "countOuters", "(I)I"⟩
def RX3 : String := "DrawerCabinet"
def TX3 : u_T := fun k => match k with
  | 0 => ("DrawerCabinet", "now", "LDrawerCabinet$State;", true)
  | 1 => ("DrawerCabinet", "snapshot", "LDrawerCabinet$State;", true)
  | 2 => ("DrawerCabinet", "trial", "LDrawerCabinet$State;", true)
  | 3 => ("DrawerCabinet", "history", "[LDrawerCabinet$State;", true)
  | 4 => ("DrawerCabinet", "plan", "LDrawerCabinet$Plan;", true)
  | 5 => ("DrawerCabinet", "text", "LDrawerCabinet$DrawerText;", true)
  | 6 => ("DrawerCabinet", "past", "I", false)
  | _ => ("DrawerCabinet", "kept", "Z", false)
def tyX3 : Nat → FieldType := fun k => match k with
  | 0 => .object "DrawerCabinet$State"
  | 1 => .object "DrawerCabinet$State"
  | 2 => .object "DrawerCabinet$State"
  | 3 => .array (.object "DrawerCabinet$State")
  | 4 => .object "DrawerCabinet$Plan"
  | 5 => .object "DrawerCabinet$DrawerText"
  | 6 => .int
  | _ => .boolean
abbrev wsX30 : List Cond := u_ws RX3 TX3 8
theorem nmX3 : ∀ a, a < 8 → ∀ b, b < 8 → a ≠ b → (TX3 a).2.1 ≠ (TX3 b).2.1 := by decide +kernel
theorem tyX3_ok : ∀ k, k < 8 → parseFieldDescriptor (TX3 k).2.2.1 = some (tyX3 k) := by decide +kernel
abbrev cX3_init : ByteArray := prog_1_method_1_code
def yX3_init : MethodName := ⟨RX3, "<init>", "()V"⟩
abbrev cX3_build : ByteArray := prog_1_method_2_code
def yX3_build : MethodName := ⟨RX3, "build", "(IIII)I"⟩
abbrev cX3_setBottoms : ByteArray := prog_1_method_4_code
def yX3_setBottoms : MethodName := ⟨RX3, "setBottoms", "(II)I"⟩
abbrev cX3_lay : ByteArray := prog_1_method_5_code
def yX3_lay : MethodName := ⟨RX3, "lay", "(III)I"⟩
abbrev cX3_begin : ByteArray := prog_1_method_6_code
def yX3_begin : MethodName := ⟨RX3, "begin", "()I"⟩
abbrev cX3_giveUp : ByteArray := prog_1_method_7_code
def yX3_giveUp : MethodName := ⟨RX3, "giveUp", "()I"⟩
abbrev cX3_open : ByteArray := prog_1_method_8_code
def yX3_open : MethodName := ⟨RX3, "open", "(I)I"⟩
abbrev cX3_close : ByteArray := prog_1_method_9_code
def yX3_close : MethodName := ⟨RX3, "close", "(I)I"⟩
abbrev cX3_lift : ByteArray := prog_1_method_10_code
def yX3_lift : MethodName := ⟨RX3, "lift", "(I)I"⟩
abbrev cX3_take : ByteArray := prog_1_method_11_code
def yX3_take : MethodName := ⟨RX3, "take", "(I)I"⟩
abbrev cX3_seal : ByteArray := prog_1_method_12_code
def yX3_seal : MethodName := ⟨RX3, "seal", "(I)I"⟩
abbrev cX3_undo : ByteArray := prog_1_method_15_code
def yX3_undo : MethodName := ⟨RX3, "undo", "()I"⟩
abbrev cX3_drawer : ByteArray := prog_1_method_18_code
def yX3_drawer : MethodName := ⟨RX3, "drawer", "(II)I"⟩
abbrev cX3_thing : ByteArray := prog_1_method_19_code
def yX3_thing : MethodName := ⟨RX3, "thing", "(II)I"⟩
abbrev cX3_needs : ByteArray := prog_1_method_20_code
def yX3_needs : MethodName := ⟨RX3, "needs", "(II)I"⟩
abbrev cX3_hint : ByteArray := prog_1_method_21_code
def yX3_hint : MethodName := ⟨RX3, "hint", "(I)I"⟩
abbrev cX3_minutes : ByteArray := prog_1_method_22_code
def yX3_minutes : MethodName := ⟨RX3, "minutes", "()D"⟩
abbrev cX3_minutesBits : ByteArray := prog_1_method_23_code
def yX3_minutesBits : MethodName := ⟨RX3, "minutesBits", "()I"⟩
abbrev cX3_count : ByteArray := prog_1_method_24_code
def yX3_count : MethodName := ⟨RX3, "count", "(I)I"⟩
abbrev cX3_isHold : ByteArray := prog_1_method_25_code
def yX3_isHold : MethodName := ⟨RX3, "isHold", "(II)Z"⟩
abbrev cX3_isThing : ByteArray := prog_1_method_26_code
def yX3_isThing : MethodName := ⟨RX3, "isThing", "(I)Z"⟩
abbrev cX3_oneIf : ByteArray := prog_1_method_27_code
def yX3_oneIf : MethodName := ⟨RX3, "oneIf", "(Z)I"⟩
abbrev cX3_bit : ByteArray := prog_1_method_28_code
def yX3_bit : MethodName := ⟨RX3, "bit", "(I)I"⟩
abbrev cX3_isIn : ByteArray := prog_1_method_29_code
def yX3_isIn : MethodName := ⟨RX3, "isIn", "(II)Z"⟩
abbrev cX3_bitsOf : ByteArray := prog_1_method_30_code
def yX3_bitsOf : MethodName := ⟨RX3, "bitsOf", "(F)I"⟩
abbrev cX3_recordState : ByteArray := prog_1_method_31_code
def yX3_recordState : MethodName := ⟨RX3, "recordState", "()V"⟩
abbrev cX3_dropOldest : ByteArray := prog_1_method_32_code
def yX3_dropOldest : MethodName := ⟨RX3, "dropOldest", "()V"⟩
abbrev cX3_copyState : ByteArray := prog_1_method_33_code
def yX3_copyState : MethodName := ⟨RX3, "copyState", "(LDrawerCabinet$State;LDrawerCabinet$State;)V"⟩
abbrev cX3_canComeTo : ByteArray := prog_1_method_34_code
def yX3_canComeTo : MethodName := ⟨RX3, "canComeTo", "(I)Z"⟩
abbrev cX3_neverOpened : ByteArray := prog_1_method_35_code
def yX3_neverOpened : MethodName := ⟨RX3, "neverOpened", "()I"⟩
def RX4 : String := "DrawerCabinetModel"
def TX4 : u_T := fun k => match k with
  | _ => ("", "", "", false)
def tyX4 : Nat → FieldType := fun k => match k with
  | _ => .int
abbrev wsX40 : List Cond := u_ws RX4 TX4 0
theorem nmX4 : ∀ a, a < 0 → ∀ b, b < 0 → a ≠ b → (TX4 a).2.1 ≠ (TX4 b).2.1 := by decide +kernel
theorem tyX4_ok : ∀ k, k < 0 → parseFieldDescriptor (TX4 k).2.2.1 = some (tyX4 k) := by decide +kernel
def RJ6 : String := "java/lang/Integer"
def TJ6 : u_T := fun k => match k with
  | _ => ("", "", "", false)
def tyJ6 : Nat → FieldType := fun k => match k with
  | _ => .int
abbrev wsJ60 : List Cond := u_ws RJ6 TJ6 0
theorem nmJ6 : ∀ a, a < 0 → ∀ b, b < 0 → a ≠ b → (TJ6 a).2.1 ≠ (TJ6 b).2.1 := by decide +kernel
theorem tyJ6_ok : ∀ k, k < 0 → parseFieldDescriptor (TJ6 k).2.2.1 = some (tyJ6 k) := by decide +kernel
abbrev cJ6_bitCount_0f7a4 : ByteArray := prog_7_method_49_code
def yJ6_bitCount_0f7a4 : MethodName := ⟨RJ6, "bitCount", "(I)I"⟩
def RJ9 : String := "java/lang/Math"
def TJ9 : u_T := fun k => match k with
  | _ => ("", "", "", false)
def tyJ9 : Nat → FieldType := fun k => match k with
  | _ => .int
abbrev wsJ90 : List Cond := u_ws RJ9 TJ9 0
theorem nmJ9 : ∀ a, a < 0 → ∀ b, b < 0 → a ≠ b → (TJ9 a).2.1 ≠ (TJ9 b).2.1 := by decide +kernel
theorem tyJ9_ok : ∀ k, k < 0 → parseFieldDescriptor (TJ9 k).2.2.1 = some (tyJ9 k) := by decide +kernel
abbrev cJ9_max_7cf53 : ByteArray := prog_8_method_65_code
def yJ9_max_7cf53 : MethodName := ⟨RJ9, "max", "(II)I"⟩
def RJ10 : String := "java/lang/System"
def TJ10 : u_T := fun k => match k with
  | _ => ("", "", "", false)
def tyJ10 : Nat → FieldType := fun k => match k with
  | _ => .int
abbrev wsJ100 : List Cond := u_ws RJ10 TJ10 0
theorem nmJ10 : ∀ a, a < 0 → ∀ b, b < 0 → a ≠ b → (TJ10 a).2.1 ≠ (TJ10 b).2.1 := by decide +kernel
theorem tyJ10_ok : ∀ k, k < 0 → parseFieldDescriptor (TJ10 k).2.2.1 = some (tyJ10 k) := by decide +kernel
def RL : String := "DrawerCabinetLaw"
abbrev cL_cell : ByteArray := method_2_code
def yL_cell : MethodName := ⟨RL, "cell", "([II)I"⟩
abbrev cL_bits : ByteArray := method_3_code
def yL_bits : MethodName := ⟨RL, "bits", "(I)I"⟩
abbrev cL_isNeeded : ByteArray := method_4_code
def yL_isNeeded : MethodName := ⟨RL, "isNeeded", "(LDrawerCabinet;I)Z"⟩
abbrev cL_goes : ByteArray := method_5_code
def yL_goes : MethodName := ⟨RL, "goes", "(LDrawerCabinet;I)Z"⟩
abbrev cL_builds : ByteArray := method_6_code
def yL_builds : MethodName := ⟨RL, "builds", "(LDrawerCabinet;[I)Z"⟩
abbrev cL_isAll : ByteArray := method_7_code
def yL_isAll : MethodName := ⟨RL, "isAll", "(LDrawerCabinet;)Z"⟩
abbrev cL_acts : ByteArray := method_8_code
def yL_acts : MethodName := ⟨RL, "acts", "(LDrawerCabinet;I)Z"⟩
abbrev cL_law : ByteArray := code
def yL_law : MethodName := ⟨RL, "law", "([I)Z"⟩
abbrev vwCl : List vw_C := [(RX0, TX0, 8), (RX1, TX1, 3), (RX2, TX2, 15), (RX3, TX3, 8)]
/-! my tables: classes, methods, links -/
def CN : Nat → String := fun k => match k with
  | 0 => RX0
  | 1 => RX1
  | 2 => RX2
  | 3 => RX3
  | 4 => RJ6
  | 5 => RJ9
  | 6 => RJ10
  | _ => RL
def MT_0 : List (Nat × MethodName × ByteArray × Nat × Option FieldType × Nat) := [(0, yX0_init, cX0_init, 1, none, 0),
  (1, yX1_init, cX1_init, 1, none, 0),
  (1, yX1_make, cX1_make, 5, none, 2),
  (1, yX1_countSteps, cX1_countSteps, 2, (some .int), 1),
  (1, yX1_countLiftings, cX1_countLiftings, 4, (some .int), 1),
  (1, yX1_firstStep, cX1_firstStep, 4, (some .int), 1),
  (1, yX1_isLiftingIn, cX1_isLiftingIn, 3, (some .boolean), 2),
  (1, yX1_addNeedsOfAll, cX1_addNeedsOfAll, 3, none, 1),
  (1, yX1_addWayInto, cX1_addWayInto, 5, none, 2),
  (1, yX1_addNeedsOfOpening, cX1_addNeedsOfOpening, 3, none, 2),
  (1, yX1_addNeedsOfTaking, cX1_addNeedsOfTaking, 4, none, 2),
  (1, yX1_addOpening, cX1_addOpening, 3, none, 2),
  (1, yX1_addTaking, cX1_addTaking, 3, none, 2)]
def MT_1 : List (Nat × MethodName × ByteArray × Nat × Option FieldType × Nat) := [(2, yX2_init, cX2_init, 2, none, 0),
  (2, yX2_copyFrom, cX2_copyFrom, 2, none, 1),
  (2, yX2_addDrawer, cX2_addDrawer, 6, none, 5),
  (2, yX2_changeBottoms, cX2_changeBottoms, 4, none, 2),
  (2, yX2_putBack, cX2_putBack, 2, none, 0),
  (2, yX2_isThere, cX2_isThere, 2, (some .boolean), 1),
  (2, yX2_isOpen, cX2_isOpen, 2, (some .boolean), 1),
  (2, yX2_isInHand, cX2_isInHand, 2, (some .boolean), 1),
  (2, yX2_isReached, cX2_isReached, 4, (some .boolean), 1),
  (2, yX2_canOpen, cX2_canOpen, 2, (some .boolean), 1),
  (2, yX2_isLetByHold, cX2_isLetByHold, 2, (some .boolean), 1),
  (2, yX2_hasBottomLeft, cX2_hasBottomLeft, 2, (some .boolean), 1),
  (2, yX2_canLift, cX2_canLift, 2, (some .boolean), 1)]
def MT_2 : List (Nat × MethodName × ByteArray × Nat × Option FieldType × Nat) := [(2, yX2_canTake, cX2_canTake, 3, (some .boolean), 1),
  (2, yX2_canSeal, cX2_canSeal, 2, (some .boolean), 1),
  (2, yX2_setOpen, cX2_setOpen, 2, none, 1),
  (2, yX2_addStep, cX2_addStep, 2, none, 1),
  (2, yX2_makeAllSteps, cX2_makeAllSteps, 3, none, 0),
  (2, yX2_makeSteps, cX2_makeSteps, 3, (some .boolean), 0),
  (2, yX2_hasAllHolders, cX2_hasAllHolders, 2, (some .boolean), 0),
  (2, yX2_openableNow, cX2_openableNow, 3, (some .int), 0),
  (2, yX2_countWholeSeals, cX2_countWholeSeals, 4, (some .int), 1),
  (2, yX2_countThingsInDrawers, cX2_countThingsInDrawers, 3, (some .int), 0),
  (2, yX2_countThingsIn, cX2_countThingsIn, 4, (some .int), 1),
  (2, yX2_countOuters, cX2_countOuters, 4, (some .int), 1),
  (3, yX3_init, cX3_init, 2, none, 0)]
def MT_3 : List (Nat × MethodName × ByteArray × Nat × Option FieldType × Nat) := [(3, yX3_build, cX3_build, 5, (some .int), 4),
  (3, yX3_setBottoms, cX3_setBottoms, 4, (some .int), 2),
  (3, yX3_lay, cX3_lay, 5, (some .int), 3),
  (3, yX3_begin, cX3_begin, 1, (some .int), 0),
  (3, yX3_giveUp, cX3_giveUp, 2, (some .int), 0),
  (3, yX3_open, cX3_open, 2, (some .int), 1),
  (3, yX3_close, cX3_close, 2, (some .int), 1),
  (3, yX3_lift, cX3_lift, 2, (some .int), 1),
  (3, yX3_take, cX3_take, 2, (some .int), 1),
  (3, yX3_seal, cX3_seal, 2, (some .int), 1),
  (3, yX3_undo, cX3_undo, 1, (some .int), 0),
  (3, yX3_drawer, cX3_drawer, 3, (some .int), 2),
  (3, yX3_thing, cX3_thing, 4, (some .int), 2)]
def MT_4 : List (Nat × MethodName × ByteArray × Nat × Option FieldType × Nat) := [(3, yX3_needs, cX3_needs, 3, (some .int), 2),
  (3, yX3_hint, cX3_hint, 2, (some .int), 1),
  (3, yX3_minutes, cX3_minutes, 1, (some .double), 0),
  (3, yX3_minutesBits, cX3_minutesBits, 1, (some .int), 0),
  (3, yX3_count, cX3_count, 2, (some .int), 1),
  (3, yX3_isHold, cX3_isHold, 2, (some .boolean), 2),
  (3, yX3_isThing, cX3_isThing, 1, (some .boolean), 1),
  (3, yX3_oneIf, cX3_oneIf, 1, (some .int), 1),
  (3, yX3_bit, cX3_bit, 1, (some .int), 1),
  (3, yX3_isIn, cX3_isIn, 2, (some .boolean), 2),
  (3, yX3_bitsOf, cX3_bitsOf, 4, (some .int), 1),
  (3, yX3_recordState, cX3_recordState, 1, none, 0),
  (3, yX3_dropOldest, cX3_dropOldest, 3, none, 0)]
def MT_5 : List (Nat × MethodName × ByteArray × Nat × Option FieldType × Nat) := [(3, yX3_copyState, cX3_copyState, 2, none, 2),
  (3, yX3_canComeTo, cX3_canComeTo, 2, (some .boolean), 1),
  (3, yX3_neverOpened, cX3_neverOpened, 1, (some .int), 0),
  (4, yJ6_bitCount_0f7a4, cJ6_bitCount_0f7a4, 1, (some .int), 1),
  (5, yJ9_max_7cf53, cJ9_max_7cf53, 2, (some .int), 2),
  (7, yL_cell, cL_cell, 2, (some .int), 2),
  (7, yL_bits, cL_bits, 3, (some .int), 1),
  (7, yL_isNeeded, cL_isNeeded, 9, (some .boolean), 2),
  (7, yL_goes, cL_goes, 9, (some .boolean), 2),
  (7, yL_builds, cL_builds, 8, (some .boolean), 2),
  (7, yL_isAll, cL_isAll, 8, (some .boolean), 1),
  (7, yL_acts, cL_acts, 9, (some .boolean), 2),
  (7, yL_law, cL_law, 6, (some .boolean), 1)]
def MT : List (Nat × MethodName × ByteArray × Nat × Option FieldType × Nat) := MT_0 ++ (MT_1 ++ (MT_2 ++ (MT_3 ++ (MT_4 ++ (MT_5)))))
/-- the number of methods, the law the last one -/
abbrev NM : Nat := 78
abbrev yLAW : Nat := 77
def mrow (y : Nat) : Nat × MethodName × ByteArray × Nat × Option FieldType × Nat := MT.getD y (0, yL_law, cL_law, 0, none, 0)
def mown (y : Nat) : Nat := (mrow y).1
def mnm (y : Nat) : MethodName := (mrow y).2.1
def mcd (y : Nat) : ByteArray := (mrow y).2.2.1
def mml (y : Nat) : Nat := (mrow y).2.2.2.1
def mrt (y : Nat) : Option FieldType := (mrow y).2.2.2.2.1
def mna (y : Nat) : Nat := (mrow y).2.2.2.2.2
/-! the numbers of the methods -/
abbrev nX0_init : Nat := 0
abbrev nX1_init : Nat := 1
abbrev nX1_make : Nat := 2
abbrev nX1_countSteps : Nat := 3
abbrev nX1_countLiftings : Nat := 4
abbrev nX1_firstStep : Nat := 5
abbrev nX1_isLiftingIn : Nat := 6
abbrev nX1_addNeedsOfAll : Nat := 7
abbrev nX1_addWayInto : Nat := 8
abbrev nX1_addNeedsOfOpening : Nat := 9
abbrev nX1_addNeedsOfTaking : Nat := 10
abbrev nX1_addOpening : Nat := 11
abbrev nX1_addTaking : Nat := 12
abbrev nX2_init : Nat := 13
abbrev nX2_copyFrom : Nat := 14
abbrev nX2_addDrawer : Nat := 15
abbrev nX2_changeBottoms : Nat := 16
abbrev nX2_putBack : Nat := 17
abbrev nX2_isThere : Nat := 18
abbrev nX2_isOpen : Nat := 19
abbrev nX2_isInHand : Nat := 20
abbrev nX2_isReached : Nat := 21
abbrev nX2_canOpen : Nat := 22
abbrev nX2_isLetByHold : Nat := 23
abbrev nX2_hasBottomLeft : Nat := 24
abbrev nX2_canLift : Nat := 25
abbrev nX2_canTake : Nat := 26
abbrev nX2_canSeal : Nat := 27
abbrev nX2_setOpen : Nat := 28
abbrev nX2_addStep : Nat := 29
abbrev nX2_makeAllSteps : Nat := 30
abbrev nX2_makeSteps : Nat := 31
abbrev nX2_hasAllHolders : Nat := 32
abbrev nX2_openableNow : Nat := 33
abbrev nX2_countWholeSeals : Nat := 34
abbrev nX2_countThingsInDrawers : Nat := 35
abbrev nX2_countThingsIn : Nat := 36
abbrev nX2_countOuters : Nat := 37
abbrev nX3_init : Nat := 38
abbrev nX3_build : Nat := 39
abbrev nX3_setBottoms : Nat := 40
abbrev nX3_lay : Nat := 41
abbrev nX3_begin : Nat := 42
abbrev nX3_giveUp : Nat := 43
abbrev nX3_open : Nat := 44
abbrev nX3_close : Nat := 45
abbrev nX3_lift : Nat := 46
abbrev nX3_take : Nat := 47
abbrev nX3_seal : Nat := 48
abbrev nX3_undo : Nat := 49
abbrev nX3_drawer : Nat := 50
abbrev nX3_thing : Nat := 51
abbrev nX3_needs : Nat := 52
abbrev nX3_hint : Nat := 53
abbrev nX3_minutes : Nat := 54
abbrev nX3_minutesBits : Nat := 55
abbrev nX3_count : Nat := 56
abbrev nX3_isHold : Nat := 57
abbrev nX3_isThing : Nat := 58
abbrev nX3_oneIf : Nat := 59
abbrev nX3_bit : Nat := 60
abbrev nX3_isIn : Nat := 61
abbrev nX3_bitsOf : Nat := 62
abbrev nX3_recordState : Nat := 63
abbrev nX3_dropOldest : Nat := 64
abbrev nX3_copyState : Nat := 65
abbrev nX3_canComeTo : Nat := 66
abbrev nX3_neverOpened : Nat := 67
abbrev nJ6_bitCount_0f7a4 : Nat := 68
abbrev nJ9_max_7cf53 : Nat := 69
abbrev nL_cell : Nat := 70
abbrev nL_bits : Nat := 71
abbrev nL_isNeeded : Nat := 72
abbrev nL_goes : Nat := 73
abbrev nL_builds : Nat := 74
abbrev nL_isAll : Nat := 75
abbrev nL_acts : Nat := 76
abbrev nL_law : Nat := 77
/-! calls: by class, a place of the constant pool, the kind of the call, the method -/
def LK_0 : List (Nat × Nat × Nat) := [(3, 5, 0)]
def LK_1 : List (Nat × Nat × Nat) := [(3, 5, 0), (22, 0, 8), (26, 0, 3), (30, 0, 7), (34, 1, 68), (40, 0, 4), (48, 8, 69), (54, 0, 33), (58, 3, 61), (62, 0, 26), (66, 0, 6), (70, 0, 25), (73, 0, 9), (76, 0, 12), (79, 0, 10), (82, 0, 18), (85, 0, 11), (103, 0, 19), (106, 3, 60), (109, 0, 20)]
def LK_2 : List (Nat × Nat × Nat) := [(3, 5, 0), (59, 6, 0), (65, 0, 18), (69, 0, 19), (72, 0, 21), (75, 0, 23), (78, 0, 20), (81, 0, 24), (84, 3, 61), (88, 3, 60), (92, 0, 31), (96, 0, 22), (99, 0, 28), (103, 0, 25), (106, 0, 26)]
def LK_3 : List (Nat × Nat × Nat) := [(3, 5, 0), (11, 2, 13), (28, 4, 1), (35, 4, 0), (48, 0, 18), (52, 1, 57), (62, 0, 63), (65, 0, 15), (93, 0, 16), (97, 1, 58), (106, 0, 35), (109, 0, 32), (113, 0, 17), (119, 0, 19), (122, 0, 22), (125, 0, 28), (132, 0, 29), (138, 1, 68), (144, 0, 21), (147, 1, 60), (150, 0, 24), (153, 0, 25), (159, 0, 20), (162, 0, 26), (171, 1, 61), (174, 0, 27), (184, 1, 65), (191, 1, 59), (195, 0, 36), (198, 0, 37), (201, 0, 66), (204, 0, 2), (208, 0, 3), (218, 0, 4), (221, 0, 34), (224, 0, 5), (234, 0, 54), (238, 1, 62), (242, 0, 67), (245, 0, 33), (249, 0, 64), (252, 0, 14), (256, 0, 30)]
def LK_4 : List (Nat × Nat × Nat) := []
def LK_5 : List (Nat × Nat × Nat) := []
def LK_6 : List (Nat × Nat × Nat) := []
def LK_7 : List (Nat × Nat × Nat) := [(9, 0, 52), (15, 0, 53), (19, 1, 71), (24, 0, 56), (27, 0, 50), (30, 0, 51), (33, 0, 54), (37, 0, 44), (42, 0, 47), (47, 0, 46), (52, 1, 70), (56, 0, 39), (60, 0, 40), (63, 0, 41), (67, 0, 45), (70, 0, 48), (73, 2, 38), (74, 0, 42), (78, 0, 49), (81, 1, 74), (85, 0, 55), (88, 1, 72), (92, 1, 73), (95, 1, 76), (98, 1, 75), (102, 0, 43)]
def LK (own : Nat) : List (Nat × Nat × Nat) := match own with
  | 0 => LK_0
  | 1 => LK_1
  | 2 => LK_2
  | 3 => LK_3
  | 4 => LK_4
  | 5 => LK_5
  | 6 => LK_6
  | _ => LK_7
def lnk (own ix : Nat) : Option (Nat × Nat) := ((LK own).find? (fun e => e.1 == ix)).map (·.2)
/-! fields: by class, a place of the constant pool, the class of the field, its place there -/
def FK_0 : List (Nat × Nat × Nat) := [(9, 0, 0), (15, 0, 4), (19, 0, 5), (22, 0, 6), (25, 0, 7)]
def FK_1 : List (Nat × Nat × Nat) := [(88, 2, 7), (91, 2, 8), (94, 2, 9), (43, 2, 12), (97, 2, 13), (100, 2, 14), (15, 1, 0), (19, 1, 1), (9, 1, 2)]
def FK_2 : List (Nat × Nat × Nat) := [(36, 2, 0), (40, 2, 1), (44, 2, 2), (47, 2, 3), (50, 2, 4), (53, 2, 5), (56, 2, 6), (9, 2, 7), (15, 2, 8), (18, 2, 9), (21, 2, 10), (24, 2, 11), (27, 2, 12), (30, 2, 13), (33, 2, 14)]
def FK_3 : List (Nat × Nat × Nat) := [(56, 2, 0), (59, 2, 1), (116, 2, 2), (227, 2, 3), (135, 2, 4), (168, 2, 5), (165, 2, 6), (188, 2, 7), (189, 2, 8), (190, 2, 9), (129, 2, 10), (92, 2, 11), (156, 2, 12), (100, 2, 13), (103, 2, 14), (212, 1, 0), (215, 1, 1), (181, 0, 1), (12, 3, 0), (16, 3, 1), (19, 3, 2), (22, 3, 3), (29, 3, 4), (36, 3, 5), (40, 3, 6), (44, 3, 7)]
def FK_4 : List (Nat × Nat × Nat) := []
def FK_5 : List (Nat × Nat × Nat) := []
def FK_6 : List (Nat × Nat × Nat) := []
def FK_7 : List (Nat × Nat × Nat) := []
def FK (own : Nat) : List (Nat × Nat × Nat) := match own with
  | 0 => FK_0
  | 1 => FK_1
  | 2 => FK_2
  | 3 => FK_3
  | 4 => FK_4
  | 5 => FK_5
  | 6 => FK_6
  | _ => FK_7
def fld (own ix : Nat) : Option (Nat × Nat) := ((FK own).find? (fun e => e.1 == ix)).map (·.2)
def CK_0 : List (Nat × Value) := []
def CK_1 : List (Nat × Value) := []
def CK_2 : List (Nat × Value) := []
def CK_3 : List (Nat × Value) := [(230, .double 4616189618054758400), (232, .double 13830554455654793216), (248, .float 1258291200)]
def CK_4 : List (Nat × Value) := [(265, .int 1431655765), (266, .int 858993459), (267, .int 252645135)]
def CK_5 : List (Nat × Value) := []
def CK_6 : List (Nat × Value) := []
def CK_7 : List (Nat × Value) := [(7, .int 15485959), (8, .int 2147483647), (40, .double 4616189618054758400), (45, .double 4598175219545276416), (50, .double 4612811918334230528), (105, .double 13830554455654793216)]
def CK (own : Nat) : List (Nat × Value) := match own with
  | 0 => CK_0
  | 1 => CK_1
  | 2 => CK_2
  | 3 => CK_3
  | 4 => CK_4
  | 5 => CK_5
  | 6 => CK_6
  | _ => CK_7
def cst (own ix : Nat) : Option Value := ((CK own).find? (fun e => e.1 == ix)).map (·.2)
def NK_0 : List (Nat × Nat) := []
def NK_1 : List (Nat × Nat) := []
def NK_2 : List (Nat × Nat) := []
def NK_3 : List (Nat × Nat) := [(9, 2), (26, 1), (33, 0)]
def NK_4 : List (Nat × Nat) := []
def NK_5 : List (Nat × Nat) := []
def NK_6 : List (Nat × Nat) := []
def NK_7 : List (Nat × Nat) := [(10, 3)]
def NK (own : Nat) : List (Nat × Nat) := match own with
  | 0 => NK_0
  | 1 => NK_1
  | 2 => NK_2
  | 3 => NK_3
  | 4 => NK_4
  | 5 => NK_5
  | 6 => NK_6
  | _ => NK_7
def nwc (own ix : Nat) : Option Nat := ((NK own).find? (fun e => e.1 == ix)).map (·.2)
/-! which words the tables hold, by their places -/
theorem mem_places {ws : List Cond} (ps : List Nat) (h : ps.map (fun i => lw_tbl[i]?) = ws.map some) : ∀ w ∈ ws, w ∈ lw_tbl := by
  intro w hw
  have h1 : some w ∈ ps.map (fun i => lw_tbl[i]?) := by rw [h]; exact List.mem_map.mpr ⟨w, hw, rfl⟩
  obtain ⟨i, -, hi⟩ := List.mem_map.mp h1
  exact List.mem_of_getElem? hi
def wCode (e : Nat × MethodName × ByteArray × Nat × Option FieldType × Nat) : Cond := .code e.2.1 e.2.2.1 e.2.2.2.1 e.2.2.2.2.1
set_option maxRecDepth 100000 in
theorem pC_0 : ∀ w ∈ MT_0.map wCode, w ∈ lw_tbl := mem_places [126, 108, 302, 317, 327, 409, 350, 334, 306, 341, 354, 311, 345] (by decide +kernel)
set_option maxRecDepth 100000 in
theorem pC_1 : ∀ w ∈ MT_1.map wCode, w ∈ lw_tbl := mem_places [33, 202, 209, 471, 233, 184, 265, 277, 269, 261, 273, 292, 288] (by decide +kernel)
set_option maxRecDepth 100000 in
theorem pC_2 : ∀ w ∈ MT_2.map wCode, w ∈ lw_tbl := mem_places [296, 489, 281, 447, 253, 257, 229, 393, 360, 220, 424, 428, 25] (by decide +kernel)
set_option maxRecDepth 100000 in
theorem pC_3 : ∀ w ∈ MT_3.map wCode, w ∈ lw_tbl := mem_places [180, 467, 213, 225, 237, 441, 481, 457, 452, 485, 241, 419, 432] (by decide +kernel)
set_option maxRecDepth 100000 in
theorem pC_4 : ∀ w ∈ MT_4.map wCode, w ∈ lw_tbl := mem_places [245, 405, 365, 371, 380, 187, 216, 383, 284, 337, 375, 191, 195] (by decide +kernel)
set_option maxRecDepth 100000 in
theorem pC_5 : ∀ w ∈ (MT_5.take 12).map wCode, w ∈ lw_tbl := mem_places [198, 249, 388, 320, 330, 396, 415, 401, 437, 463, 474, 477] (by rfl)
set_option maxRecDepth 100000 in
theorem pI : ∀ w ∈ [0, 1, 2, 3, 4, 5, 6, 7].map (fun c => Cond.initialized (CN c)), w ∈ lw_tbl := mem_places [17, 16, 15, 14, 19, 20, 18, 13] (by decide +kernel)
/-- the words of a call: by its kind (0 of an object, 1 static, 2 a constructor, 3 static of a nest mate, 4 a nest mate's constructor, 5 Object's, 6 arraycopy, 7 floatToRawIntBits, 8 Math.max) -/
def wLink (own : Nat) (e : Nat × Nat × Nat) : List Cond := match e.2.1 with
  | 0 => [.methodLink (CN own) e.1 (mnm e.2.2), .instanceMethod (mnm e.2.2), .selects (mnm e.2.2).cls (mnm e.2.2) (mnm e.2.2)]
  | 1 => [.methodLink (CN own) e.1 (mnm e.2.2), .static (mnm e.2.2)]
  | 2 => [.methodLink (CN own) e.1 (mnm e.2.2), .instanceMethod (mnm e.2.2)]
  | 3 => [.methodLinkNest (CN own) e.1 (mnm e.2.2) RX3, .static (mnm e.2.2)]
  | 4 => [.methodLinkNest (CN own) e.1 (mnm e.2.2) RX3, .instanceMethod (mnm e.2.2)]
  | 5 => [.methodLink (CN own) e.1 objectInit, .instanceMethod objectInit]
  | 6 => [.methodLink (CN own) e.1 arraycopyName, .native arraycopyName, .static arraycopyName]
  | 7 => [.methodLink (CN own) e.1 ⟨"java/lang/Float", "floatToRawIntBits", "(F)I"⟩, .native ⟨"java/lang/Float", "floatToRawIntBits", "(F)I"⟩, .static ⟨"java/lang/Float", "floatToRawIntBits", "(F)I"⟩]
  | _ => [.methodLink (CN own) e.1 (mnm e.2.2), .static (mnm e.2.2)]
set_option maxRecDepth 100000 in
theorem pL_0 : ∀ w ∈ LK_0.flatMap (wLink 0), w ∈ lw_tbl := mem_places [127, 27] (by decide +kernel)
set_option maxRecDepth 100000 in
theorem pL_1 : ∀ w ∈ LK_1.flatMap (wLink 1), w ∈ lw_tbl := mem_places [109, 27, 303, 305, 5, 314, 315, 316, 331, 333, 7, 318, 319, 324, 325, 326, 328, 329, 410, 391, 392, 335, 336, 411, 294, 295, 347, 349, 10, 412, 286, 287, 338, 340, 8, 342, 344, 9, 351, 353, 11, 307, 182, 183, 308, 310, 6, 312, 263, 264, 313, 283, 346, 275, 276] (by decide +kernel)
set_option maxRecDepth 100000 in
theorem pL_2 : ∀ w ∈ LK_2.flatMap (wLink 2), w ∈ lw_tbl := mem_places [34, 27, 203, 205, 204, 221, 182, 183, 262, 263, 264, 266, 267, 268, 270, 272, 4, 274, 275, 276, 289, 290, 291, 361, 336, 282, 283, 254, 256, 3, 258, 259, 260, 278, 279, 280, 285, 286, 287, 293, 294, 295] (by decide +kernel)
set_option maxRecDepth 100000 in
theorem pL_3 : ∀ w ∈ LK_3.flatMap (wLink 3), w ∈ lw_tbl := mem_places [26, 27, 31, 32, 106, 107, 124, 125, 181, 182, 183, 185, 186, 188, 190, 0, 206, 207, 208, 468, 469, 470, 214, 215, 217, 218, 219, 226, 227, 228, 230, 231, 232, 297, 263, 264, 442, 259, 260, 443, 279, 280, 444, 445, 446, 384, 319, 298, 267, 268, 389, 283, 458, 290, 291, 459, 286, 287, 433, 275, 276, 434, 294, 295, 420, 336, 486, 487, 488, 196, 197, 381, 382, 421, 422, 423, 425, 426, 427, 246, 248, 2, 299, 300, 301, 355, 315, 316, 356, 325, 326, 357, 358, 359, 406, 407, 408, 372, 363, 364, 373, 374, 385, 387, 12, 390, 391, 392, 192, 194, 1, 199, 200, 201, 250, 251, 252] (by decide +kernel)
set_option maxRecDepth 100000 in
theorem pL_7 : ∀ w ∈ LK_7.flatMap (wLink 7), w ∈ lw_tbl := mem_places [242, 243, 244, 402, 403, 404, 413, 414, 377, 378, 379, 416, 417, 418, 429, 430, 431, 362, 363, 364, 438, 439, 440, 449, 450, 451, 454, 455, 456, 394, 395, 177, 178, 179, 464, 465, 466, 210, 211, 212, 478, 479, 480, 482, 483, 484, 23, 24, 222, 223, 224, 238, 239, 240, 461, 462, 368, 369, 370, 399, 400, 435, 436, 475, 476, 472, 473, 234, 235, 236] (by decide +kernel)
def wFld (own : Nat) (e : Nat × Nat × Nat) : Cond := match vwCl[e.2.1]? with
  | some r => .fieldLink (CN own) e.1 r.1 (r.2.1 e.2.2).2.1 (r.2.1 e.2.2).2.2.1
  | none => .initialized ""
set_option maxRecDepth 100000 in
theorem pF_0 : ∀ w ∈ FK_0.map (wFld 0), w ∈ lw_tbl := mem_places [128, 130, 131, 132, 133] (by decide +kernel)
set_option maxRecDepth 100000 in
theorem pF_1 : ∀ w ∈ FK_1.map (wFld 1), w ∈ lw_tbl := mem_places [50, 53, 56, 63, 67, 70, 110, 112, 114] (by decide +kernel)
set_option maxRecDepth 100000 in
theorem pF_2 : ∀ w ∈ FK_2.map (wFld 2), w ∈ lw_tbl := mem_places [35, 37, 39, 41, 43, 45, 47, 49, 52, 55, 58, 60, 62, 65, 68] (by decide +kernel)
set_option maxRecDepth 100000 in
theorem pF_3 : ∀ w ∈ FK_3.map (wFld 3), w ∈ lw_tbl := mem_places [36, 38, 40, 42, 44, 46, 48, 51, 54, 57, 59, 61, 64, 66, 69, 111, 113, 129, 152, 153, 154, 155, 156, 157, 158, 159] (by decide +kernel)
def wCst (own : Nat) (e : Nat × Value) : Cond := match e.2 with
  | .int v => .constant (CN own) e.1 v
  | .double v => .constantDouble (CN own) e.1 v
  | .float v => .constantFloat (CN own) e.1 v
  | _ => .initialized ""
set_option maxRecDepth 100000 in
theorem pK_3 : ∀ w ∈ CK_3.map (wCst 3), w ∈ lw_tbl := mem_places [366, 367, 376] (by decide +kernel)
set_option maxRecDepth 100000 in
theorem pK_4 : ∀ w ∈ CK_4.map (wCst 4), w ∈ lw_tbl := mem_places [321, 322, 323] (by decide +kernel)
set_option maxRecDepth 100000 in
theorem pK_7 : ∀ w ∈ CK_7.map (wCst 7), w ∈ lw_tbl := mem_places [397, 398, 448, 453, 460, 490] (by decide +kernel)
def wNew (own : Nat) (e : Nat × Nat) : List Cond := match vwCl[e.2]? with
  | some r => [.classLink (CN own) e.1 r.1, .instantiable r.1 r.2.2]
  | none => []
set_option maxRecDepth 100000 in
theorem pN_3 : ∀ w ∈ NK_3.flatMap (wNew 3), w ∈ lw_tbl := mem_places [29, 30, 104, 105, 122, 123] (by decide +kernel)
set_option maxRecDepth 100000 in
theorem pN_7 : ∀ w ∈ NK_7.flatMap (wNew 7), w ∈ lw_tbl := mem_places [21, 22] (by decide +kernel)
set_option maxRecDepth 100000 in
theorem inF_0 : ∀ w ∈ u_ws RX0 TX0 8, w ∈ lw_tbl := mem_places [134, 136, 138, 140, 142, 144, 146, 148] (by decide +kernel)
set_option maxRecDepth 100000 in
theorem inF_1 : ∀ w ∈ u_ws RX1 TX1 3, w ∈ lw_tbl := mem_places [115, 117, 119] (by decide +kernel)
set_option maxRecDepth 100000 in
theorem inF_2 : ∀ w ∈ u_ws RX2 TX2 15, w ∈ lw_tbl := mem_places [71, 73, 75, 77, 79, 81, 83, 85, 87, 89, 91, 93, 95, 97, 99] (by decide +kernel)
set_option maxRecDepth 100000 in
theorem inF_3 : ∀ w ∈ u_ws RX3 TX3 8, w ∈ lw_tbl := mem_places [160, 162, 164, 166, 168, 170, 172, 174] (by decide +kernel)
set_option maxRecDepth 100000 in
theorem pX : ∀ w ∈ [Cond.arrayClass .int, .arrayClass .char, .arrayOver (.object RX2), .code objectInit ⟨#[0xb1]⟩ 1 none], w ∈ lw_tbl := mem_places [102, 151, 103, 28] (by decide +kernel)

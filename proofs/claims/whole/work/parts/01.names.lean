-- ===== PART A: goes FIRST, ahead of the names: the tables' words, and 'selects' of the private methods out of them =====
/-- a private method of a class that the tables say can be made, by its rows of tables_1 -/
def lw_okq (q : MethodName × Nat) : Prop := (q.1.cls ≠ "java/lang/invoke/MethodHandle" ∧ q.1.cls ≠ "java/lang/invoke/VarHandle") ∧ Cond.instantiable q.1.cls q.2 ∈ tables_1 ∧ Cond.privateMethod q.1 ∈ tables_1 ∧ Cond.instanceMethod q.1 ∈ tables_1
theorem lw_p0 : lw_okq (⟨"DrawerCabinet", "recordState", "()V"⟩, 8) := ⟨⟨by decide +kernel, by decide +kernel⟩, List.mem_of_getElem? (i := 11) (by decide +kernel), List.mem_of_getElem? (i := 186) (by decide +kernel), List.mem_of_getElem? (i := 187) (by decide +kernel)⟩
theorem lw_p1 : lw_okq (⟨"DrawerCabinet", "dropOldest", "()V"⟩, 8) := ⟨⟨by decide +kernel, by decide +kernel⟩, List.mem_of_getElem? (i := 11) (by decide +kernel), List.mem_of_getElem? (i := 190) (by decide +kernel), List.mem_of_getElem? (i := 191) (by decide +kernel)⟩
theorem lw_p2 : lw_okq (⟨"DrawerCabinet$DrawerText", "readDrawer", "()Z"⟩, 8) := ⟨⟨by decide +kernel, by decide +kernel⟩, List.mem_of_getElem? (i := 112) (by decide +kernel), List.mem_of_getElem? (i := 216) (by decide +kernel), List.mem_of_getElem? (i := 217) (by decide +kernel)⟩
theorem lw_p3 : lw_okq (⟨"DrawerCabinet$DrawerText", "readOuter", "()Z"⟩, 8) := ⟨⟨by decide +kernel, by decide +kernel⟩, List.mem_of_getElem? (i := 112) (by decide +kernel), List.mem_of_getElem? (i := 220) (by decide +kernel), List.mem_of_getElem? (i := 221) (by decide +kernel)⟩
theorem lw_p4 : lw_okq (⟨"DrawerCabinet$DrawerText", "readSign", "(C)Z"⟩, 8) := ⟨⟨by decide +kernel, by decide +kernel⟩, List.mem_of_getElem? (i := 112) (by decide +kernel), List.mem_of_getElem? (i := 224) (by decide +kernel), List.mem_of_getElem? (i := 225) (by decide +kernel)⟩
theorem lw_p5 : lw_okq (⟨"DrawerCabinet$DrawerText", "readNumber", "()I"⟩, 8) := ⟨⟨by decide +kernel, by decide +kernel⟩, List.mem_of_getElem? (i := 112) (by decide +kernel), List.mem_of_getElem? (i := 228) (by decide +kernel), List.mem_of_getElem? (i := 229) (by decide +kernel)⟩
theorem lw_p6 : lw_okq (⟨"DrawerCabinet$DrawerText", "readDigit", "(II)I"⟩, 8) := ⟨⟨by decide +kernel, by decide +kernel⟩, List.mem_of_getElem? (i := 112) (by decide +kernel), List.mem_of_getElem? (i := 232) (by decide +kernel), List.mem_of_getElem? (i := 233) (by decide +kernel)⟩
theorem lw_p7 : lw_okq (⟨"DrawerCabinet$DrawerText", "readHold", "()Z"⟩, 8) := ⟨⟨by decide +kernel, by decide +kernel⟩, List.mem_of_getElem? (i := 112) (by decide +kernel), List.mem_of_getElem? (i := 236) (by decide +kernel), List.mem_of_getElem? (i := 237) (by decide +kernel)⟩
theorem lw_p8 : lw_okq (⟨"DrawerCabinet$DrawerText", "readBottoms", "()Z"⟩, 8) := ⟨⟨by decide +kernel, by decide +kernel⟩, List.mem_of_getElem? (i := 112) (by decide +kernel), List.mem_of_getElem? (i := 240) (by decide +kernel), List.mem_of_getElem? (i := 241) (by decide +kernel)⟩
theorem lw_p9 : lw_okq (⟨"DrawerCabinet$State", "isLetByHold", "(I)Z"⟩, 15) := ⟨⟨by decide +kernel, by decide +kernel⟩, List.mem_of_getElem? (i := 19) (by decide +kernel), List.mem_of_getElem? (i := 301) (by decide +kernel), List.mem_of_getElem? (i := 302) (by decide +kernel)⟩
theorem lw_p10 : lw_okq (⟨"DrawerCabinet", "canComeTo", "(I)Z"⟩, 8) := ⟨⟨by decide +kernel, by decide +kernel⟩, List.mem_of_getElem? (i := 11) (by decide +kernel), List.mem_of_getElem? (i := 413) (by decide +kernel), List.mem_of_getElem? (i := 414) (by decide +kernel)⟩
theorem lw_p11 : lw_okq (⟨"DrawerCabinet$State", "makeSteps", "()Z"⟩, 15) := ⟨⟨by decide +kernel, by decide +kernel⟩, List.mem_of_getElem? (i := 19) (by decide +kernel), List.mem_of_getElem? (i := 421) (by decide +kernel), List.mem_of_getElem? (i := 422) (by decide +kernel)⟩
theorem lw_p12 : lw_okq (⟨"DrawerCabinet$Plan", "addWayInto", "(LDrawerCabinet$State;I)V"⟩, 3) := ⟨⟨by decide +kernel, by decide +kernel⟩, List.mem_of_getElem? (i := 94) (by decide +kernel), List.mem_of_getElem? (i := 433) (by decide +kernel), List.mem_of_getElem? (i := 434) (by decide +kernel)⟩
theorem lw_p13 : lw_okq (⟨"DrawerCabinet$Plan", "addOpening", "(LDrawerCabinet$State;I)V"⟩, 3) := ⟨⟨by decide +kernel, by decide +kernel⟩, List.mem_of_getElem? (i := 94) (by decide +kernel), List.mem_of_getElem? (i := 438) (by decide +kernel), List.mem_of_getElem? (i := 439) (by decide +kernel)⟩
theorem lw_p14 : lw_okq (⟨"DrawerCabinet$Plan", "addNeedsOfAll", "(LDrawerCabinet$State;)V"⟩, 3) := ⟨⟨by decide +kernel, by decide +kernel⟩, List.mem_of_getElem? (i := 94) (by decide +kernel), List.mem_of_getElem? (i := 456) (by decide +kernel), List.mem_of_getElem? (i := 457) (by decide +kernel)⟩
theorem lw_p15 : lw_okq (⟨"DrawerCabinet$Plan", "addNeedsOfOpening", "(LDrawerCabinet$State;I)V"⟩, 3) := ⟨⟨by decide +kernel, by decide +kernel⟩, List.mem_of_getElem? (i := 94) (by decide +kernel), List.mem_of_getElem? (i := 461) (by decide +kernel), List.mem_of_getElem? (i := 462) (by decide +kernel)⟩
def lw_privs_1 : List (MethodName × Nat) := [(⟨"DrawerCabinet", "recordState", "()V"⟩, 8), (⟨"DrawerCabinet", "dropOldest", "()V"⟩, 8), (⟨"DrawerCabinet$DrawerText", "readDrawer", "()Z"⟩, 8), (⟨"DrawerCabinet$DrawerText", "readOuter", "()Z"⟩, 8), (⟨"DrawerCabinet$DrawerText", "readSign", "(C)Z"⟩, 8), (⟨"DrawerCabinet$DrawerText", "readNumber", "()I"⟩, 8), (⟨"DrawerCabinet$DrawerText", "readDigit", "(II)I"⟩, 8), (⟨"DrawerCabinet$DrawerText", "readHold", "()Z"⟩, 8), (⟨"DrawerCabinet$DrawerText", "readBottoms", "()Z"⟩, 8), (⟨"DrawerCabinet$State", "isLetByHold", "(I)Z"⟩, 15), (⟨"DrawerCabinet", "canComeTo", "(I)Z"⟩, 8), (⟨"DrawerCabinet$State", "makeSteps", "()Z"⟩, 15), (⟨"DrawerCabinet$Plan", "addWayInto", "(LDrawerCabinet$State;I)V"⟩, 3), (⟨"DrawerCabinet$Plan", "addOpening", "(LDrawerCabinet$State;I)V"⟩, 3), (⟨"DrawerCabinet$Plan", "addNeedsOfAll", "(LDrawerCabinet$State;)V"⟩, 3), (⟨"DrawerCabinet$Plan", "addNeedsOfOpening", "(LDrawerCabinet$State;I)V"⟩, 3)]
theorem lw_r1 : ∀ q ∈ lw_privs_1, lw_okq q := List.forall_mem_cons.mpr ⟨lw_p0, List.forall_mem_cons.mpr ⟨lw_p1, List.forall_mem_cons.mpr ⟨lw_p2, List.forall_mem_cons.mpr ⟨lw_p3, List.forall_mem_cons.mpr ⟨lw_p4, List.forall_mem_cons.mpr ⟨lw_p5, List.forall_mem_cons.mpr ⟨lw_p6, List.forall_mem_cons.mpr ⟨lw_p7, List.forall_mem_cons.mpr ⟨lw_p8, List.forall_mem_cons.mpr ⟨lw_p9, List.forall_mem_cons.mpr ⟨lw_p10, List.forall_mem_cons.mpr ⟨lw_p11, List.forall_mem_cons.mpr ⟨lw_p12, List.forall_mem_cons.mpr ⟨lw_p13, List.forall_mem_cons.mpr ⟨lw_p14, List.forall_mem_cons.mpr ⟨lw_p15, fun _ h => absurd h List.not_mem_nil⟩⟩⟩⟩⟩⟩⟩⟩⟩⟩⟩⟩⟩⟩⟩⟩
theorem lw_p16 : lw_okq (⟨"DrawerCabinet$Plan", "addTaking", "(LDrawerCabinet$State;I)V"⟩, 3) := ⟨⟨by decide +kernel, by decide +kernel⟩, List.mem_of_getElem? (i := 94) (by decide +kernel), List.mem_of_getElem? (i := 465) (by decide +kernel), List.mem_of_getElem? (i := 466) (by decide +kernel)⟩
theorem lw_p17 : lw_okq (⟨"DrawerCabinet$Plan", "isLiftingIn", "(LDrawerCabinet$State;I)Z"⟩, 3) := ⟨⟨by decide +kernel, by decide +kernel⟩, List.mem_of_getElem? (i := 94) (by decide +kernel), List.mem_of_getElem? (i := 470) (by decide +kernel), List.mem_of_getElem? (i := 471) (by decide +kernel)⟩
theorem lw_p18 : lw_okq (⟨"DrawerCabinet$Plan", "addNeedsOfTaking", "(LDrawerCabinet$State;I)V"⟩, 3) := ⟨⟨by decide +kernel, by decide +kernel⟩, List.mem_of_getElem? (i := 94) (by decide +kernel), List.mem_of_getElem? (i := 474) (by decide +kernel), List.mem_of_getElem? (i := 475) (by decide +kernel)⟩
theorem lw_p19 : lw_okq (⟨"DrawerCabinet", "neverOpened", "()I"⟩, 8) := ⟨⟨by decide +kernel, by decide +kernel⟩, List.mem_of_getElem? (i := 11) (by decide +kernel), List.mem_of_getElem? (i := 517) (by decide +kernel), List.mem_of_getElem? (i := 518) (by decide +kernel)⟩
theorem lw_p20 : lw_okq (⟨"DrawerCabinetModel", "isDrawer", "(I)Z"⟩, 16) := ⟨⟨by decide +kernel, by decide +kernel⟩, List.mem_of_getElem? (i := 522) (by decide +kernel), List.mem_of_getElem? (i := 586) (by decide +kernel), List.mem_of_getElem? (i := 587) (by decide +kernel)⟩
theorem lw_p21 : lw_okq (⟨"DrawerCabinetModel", "isGame", "()Z"⟩, 16) := ⟨⟨by decide +kernel, by decide +kernel⟩, List.mem_of_getElem? (i := 522) (by decide +kernel), List.mem_of_getElem? (i := 593) (by decide +kernel), List.mem_of_getElem? (i := 594) (by decide +kernel)⟩
theorem lw_p22 : lw_okq (⟨"DrawerCabinetModel", "record", "()V"⟩, 16) := ⟨⟨by decide +kernel, by decide +kernel⟩, List.mem_of_getElem? (i := 522) (by decide +kernel), List.mem_of_getElem? (i := 597) (by decide +kernel), List.mem_of_getElem? (i := 598) (by decide +kernel)⟩
theorem lw_p23 : lw_okq (⟨"DrawerCabinetModel", "goBuild", "(IIII)I"⟩, 16) := ⟨⟨by decide +kernel, by decide +kernel⟩, List.mem_of_getElem? (i := 522) (by decide +kernel), List.mem_of_getElem? (i := 601) (by decide +kernel), List.mem_of_getElem? (i := 602) (by decide +kernel)⟩
theorem lw_p24 : lw_okq (⟨"DrawerCabinetModel", "faultOf", "()I"⟩, 16) := ⟨⟨by decide +kernel, by decide +kernel⟩, List.mem_of_getElem? (i := 522) (by decide +kernel), List.mem_of_getElem? (i := 612) (by decide +kernel), List.mem_of_getElem? (i := 613) (by decide +kernel)⟩
theorem lw_p25 : lw_okq (⟨"DrawerCabinetModel", "readsDrawer", "()Z"⟩, 16) := ⟨⟨by decide +kernel, by decide +kernel⟩, List.mem_of_getElem? (i := 522) (by decide +kernel), List.mem_of_getElem? (i := 616) (by decide +kernel), List.mem_of_getElem? (i := 617) (by decide +kernel)⟩
theorem lw_p26 : lw_okq (⟨"DrawerCabinetModel", "isSign", "(ICC)Z"⟩, 16) := ⟨⟨by decide +kernel, by decide +kernel⟩, List.mem_of_getElem? (i := 522) (by decide +kernel), List.mem_of_getElem? (i := 620) (by decide +kernel), List.mem_of_getElem? (i := 621) (by decide +kernel)⟩
theorem lw_p27 : lw_okq (⟨"DrawerCabinetModel", "readsNumber", "()I"⟩, 16) := ⟨⟨by decide +kernel, by decide +kernel⟩, List.mem_of_getElem? (i := 522) (by decide +kernel), List.mem_of_getElem? (i := 624) (by decide +kernel), List.mem_of_getElem? (i := 625) (by decide +kernel)⟩
theorem lw_p28 : lw_okq (⟨"DrawerCabinetModel", "readsHold", "(I)Z"⟩, 16) := ⟨⟨by decide +kernel, by decide +kernel⟩, List.mem_of_getElem? (i := 522) (by decide +kernel), List.mem_of_getElem? (i := 628) (by decide +kernel), List.mem_of_getElem? (i := 629) (by decide +kernel)⟩
theorem lw_p29 : lw_okq (⟨"DrawerCabinetModel", "laidMany", "()I"⟩, 16) := ⟨⟨by decide +kernel, by decide +kernel⟩, List.mem_of_getElem? (i := 522) (by decide +kernel), List.mem_of_getElem? (i := 640) (by decide +kernel), List.mem_of_getElem? (i := 641) (by decide +kernel)⟩
theorem lw_p30 : lw_okq (⟨"DrawerCabinetModel", "lacksHolder", "()Z"⟩, 16) := ⟨⟨by decide +kernel, by decide +kernel⟩, List.mem_of_getElem? (i := 522) (by decide +kernel), List.mem_of_getElem? (i := 648) (by decide +kernel), List.mem_of_getElem? (i := 649) (by decide +kernel)⟩
theorem lw_p31 : lw_okq (⟨"DrawerCabinetModel", "asLaid", "()V"⟩, 16) := ⟨⟨by decide +kernel, by decide +kernel⟩, List.mem_of_getElem? (i := 522) (by decide +kernel), List.mem_of_getElem? (i := 652) (by decide +kernel), List.mem_of_getElem? (i := 653) (by decide +kernel)⟩
def lw_privs_2 : List (MethodName × Nat) := [(⟨"DrawerCabinet$Plan", "addTaking", "(LDrawerCabinet$State;I)V"⟩, 3), (⟨"DrawerCabinet$Plan", "isLiftingIn", "(LDrawerCabinet$State;I)Z"⟩, 3), (⟨"DrawerCabinet$Plan", "addNeedsOfTaking", "(LDrawerCabinet$State;I)V"⟩, 3), (⟨"DrawerCabinet", "neverOpened", "()I"⟩, 8), (⟨"DrawerCabinetModel", "isDrawer", "(I)Z"⟩, 16), (⟨"DrawerCabinetModel", "isGame", "()Z"⟩, 16), (⟨"DrawerCabinetModel", "record", "()V"⟩, 16), (⟨"DrawerCabinetModel", "goBuild", "(IIII)I"⟩, 16), (⟨"DrawerCabinetModel", "faultOf", "()I"⟩, 16), (⟨"DrawerCabinetModel", "readsDrawer", "()Z"⟩, 16), (⟨"DrawerCabinetModel", "isSign", "(ICC)Z"⟩, 16), (⟨"DrawerCabinetModel", "readsNumber", "()I"⟩, 16), (⟨"DrawerCabinetModel", "readsHold", "(I)Z"⟩, 16), (⟨"DrawerCabinetModel", "laidMany", "()I"⟩, 16), (⟨"DrawerCabinetModel", "lacksHolder", "()Z"⟩, 16), (⟨"DrawerCabinetModel", "asLaid", "()V"⟩, 16)]
theorem lw_r2 : ∀ q ∈ lw_privs_2, lw_okq q := List.forall_mem_cons.mpr ⟨lw_p16, List.forall_mem_cons.mpr ⟨lw_p17, List.forall_mem_cons.mpr ⟨lw_p18, List.forall_mem_cons.mpr ⟨lw_p19, List.forall_mem_cons.mpr ⟨lw_p20, List.forall_mem_cons.mpr ⟨lw_p21, List.forall_mem_cons.mpr ⟨lw_p22, List.forall_mem_cons.mpr ⟨lw_p23, List.forall_mem_cons.mpr ⟨lw_p24, List.forall_mem_cons.mpr ⟨lw_p25, List.forall_mem_cons.mpr ⟨lw_p26, List.forall_mem_cons.mpr ⟨lw_p27, List.forall_mem_cons.mpr ⟨lw_p28, List.forall_mem_cons.mpr ⟨lw_p29, List.forall_mem_cons.mpr ⟨lw_p30, List.forall_mem_cons.mpr ⟨lw_p31, fun _ h => absurd h List.not_mem_nil⟩⟩⟩⟩⟩⟩⟩⟩⟩⟩⟩⟩⟩⟩⟩⟩
theorem lw_p32 : lw_okq (⟨"DrawerCabinetModel", "canOpen", "(I)Z"⟩, 16) := ⟨⟨by decide +kernel, by decide +kernel⟩, List.mem_of_getElem? (i := 522) (by decide +kernel), List.mem_of_getElem? (i := 664) (by decide +kernel), List.mem_of_getElem? (i := 665) (by decide +kernel)⟩
theorem lw_p33 : lw_okq (⟨"DrawerCabinetModel", "isReached", "(I)Z"⟩, 16) := ⟨⟨by decide +kernel, by decide +kernel⟩, List.mem_of_getElem? (i := 522) (by decide +kernel), List.mem_of_getElem? (i := 668) (by decide +kernel), List.mem_of_getElem? (i := 669) (by decide +kernel)⟩
theorem lw_p34 : lw_okq (⟨"DrawerCabinetModel", "turning", "(I)D"⟩, 16) := ⟨⟨by decide +kernel, by decide +kernel⟩, List.mem_of_getElem? (i := 522) (by decide +kernel), List.mem_of_getElem? (i := 672) (by decide +kernel), List.mem_of_getElem? (i := 673) (by decide +kernel)⟩
theorem lw_p35 : lw_okq (⟨"DrawerCabinetModel", "step", "(D)V"⟩, 16) := ⟨⟨by decide +kernel, by decide +kernel⟩, List.mem_of_getElem? (i := 522) (by decide +kernel), List.mem_of_getElem? (i := 677) (by decide +kernel), List.mem_of_getElem? (i := 678) (by decide +kernel)⟩
theorem lw_p36 : lw_okq (⟨"DrawerCabinetModel", "sumOf", "(I)I"⟩, 16) := ⟨⟨by decide +kernel, by decide +kernel⟩, List.mem_of_getElem? (i := 522) (by decide +kernel), List.mem_of_getElem? (i := 681) (by decide +kernel), List.mem_of_getElem? (i := 682) (by decide +kernel)⟩
theorem lw_p37 : lw_okq (⟨"DrawerCabinetModel", "canLift", "(I)Z"⟩, 16) := ⟨⟨by decide +kernel, by decide +kernel⟩, List.mem_of_getElem? (i := 522) (by decide +kernel), List.mem_of_getElem? (i := 693) (by decide +kernel), List.mem_of_getElem? (i := 694) (by decide +kernel)⟩
theorem lw_p38 : lw_okq (⟨"DrawerCabinetModel", "canTake", "(I)Z"⟩, 16) := ⟨⟨by decide +kernel, by decide +kernel⟩, List.mem_of_getElem? (i := 522) (by decide +kernel), List.mem_of_getElem? (i := 702) (by decide +kernel), List.mem_of_getElem? (i := 703) (by decide +kernel)⟩
theorem lw_p39 : lw_okq (⟨"DrawerCabinetModel", "handMany", "()I"⟩, 16) := ⟨⟨by decide +kernel, by decide +kernel⟩, List.mem_of_getElem? (i := 522) (by decide +kernel), List.mem_of_getElem? (i := 707) (by decide +kernel), List.mem_of_getElem? (i := 708) (by decide +kernel)⟩
theorem lw_p40 : lw_okq (⟨"DrawerCabinetModel", "reckon", "(Z)V"⟩, 16) := ⟨⟨by decide +kernel, by decide +kernel⟩, List.mem_of_getElem? (i := 522) (by decide +kernel), List.mem_of_getElem? (i := 740) (by decide +kernel), List.mem_of_getElem? (i := 741) (by decide +kernel)⟩
theorem lw_p41 : lw_okq (⟨"DrawerCabinetModel", "isClosed", "(I)Z"⟩, 16) := ⟨⟨by decide +kernel, by decide +kernel⟩, List.mem_of_getElem? (i := 522) (by decide +kernel), List.mem_of_getElem? (i := 744) (by decide +kernel), List.mem_of_getElem? (i := 745) (by decide +kernel)⟩
theorem lw_p42 : lw_okq (⟨"DrawerCabinetModel", "markOpening", "(I)V"⟩, 16) := ⟨⟨by decide +kernel, by decide +kernel⟩, List.mem_of_getElem? (i := 522) (by decide +kernel), List.mem_of_getElem? (i := 748) (by decide +kernel), List.mem_of_getElem? (i := 749) (by decide +kernel)⟩
theorem lw_p43 : lw_okq (⟨"DrawerCabinetModel", "markReach", "(IIZ)V"⟩, 16) := ⟨⟨by decide +kernel, by decide +kernel⟩, List.mem_of_getElem? (i := 522) (by decide +kernel), List.mem_of_getElem? (i := 752) (by decide +kernel), List.mem_of_getElem? (i := 753) (by decide +kernel)⟩
theorem lw_p44 : lw_okq (⟨"DrawerCabinetModel", "mark", "(II)V"⟩, 16) := ⟨⟨by decide +kernel, by decide +kernel⟩, List.mem_of_getElem? (i := 522) (by decide +kernel), List.mem_of_getElem? (i := 756) (by decide +kernel), List.mem_of_getElem? (i := 757) (by decide +kernel)⟩
theorem lw_p45 : lw_okq (⟨"DrawerCabinetModel", "isHand", "(I)Z"⟩, 16) := ⟨⟨by decide +kernel, by decide +kernel⟩, List.mem_of_getElem? (i := 522) (by decide +kernel), List.mem_of_getElem? (i := 760) (by decide +kernel), List.mem_of_getElem? (i := 761) (by decide +kernel)⟩
theorem lw_p46 : lw_okq (⟨"DrawerCabinetModel", "markLiftings", "(I)V"⟩, 16) := ⟨⟨by decide +kernel, by decide +kernel⟩, List.mem_of_getElem? (i := 522) (by decide +kernel), List.mem_of_getElem? (i := 764) (by decide +kernel), List.mem_of_getElem? (i := 765) (by decide +kernel)⟩
theorem lw_p47 : lw_okq (⟨"DrawerCabinetModel", "liftedOf", "(I)I"⟩, 16) := ⟨⟨by decide +kernel, by decide +kernel⟩, List.mem_of_getElem? (i := 522) (by decide +kernel), List.mem_of_getElem? (i := 768) (by decide +kernel), List.mem_of_getElem? (i := 769) (by decide +kernel)⟩
def lw_privs_3 : List (MethodName × Nat) := [(⟨"DrawerCabinetModel", "canOpen", "(I)Z"⟩, 16), (⟨"DrawerCabinetModel", "isReached", "(I)Z"⟩, 16), (⟨"DrawerCabinetModel", "turning", "(I)D"⟩, 16), (⟨"DrawerCabinetModel", "step", "(D)V"⟩, 16), (⟨"DrawerCabinetModel", "sumOf", "(I)I"⟩, 16), (⟨"DrawerCabinetModel", "canLift", "(I)Z"⟩, 16), (⟨"DrawerCabinetModel", "canTake", "(I)Z"⟩, 16), (⟨"DrawerCabinetModel", "handMany", "()I"⟩, 16), (⟨"DrawerCabinetModel", "reckon", "(Z)V"⟩, 16), (⟨"DrawerCabinetModel", "isClosed", "(I)Z"⟩, 16), (⟨"DrawerCabinetModel", "markOpening", "(I)V"⟩, 16), (⟨"DrawerCabinetModel", "markReach", "(IIZ)V"⟩, 16), (⟨"DrawerCabinetModel", "mark", "(II)V"⟩, 16), (⟨"DrawerCabinetModel", "isHand", "(I)Z"⟩, 16), (⟨"DrawerCabinetModel", "markLiftings", "(I)V"⟩, 16), (⟨"DrawerCabinetModel", "liftedOf", "(I)I"⟩, 16)]
theorem lw_r3 : ∀ q ∈ lw_privs_3, lw_okq q := List.forall_mem_cons.mpr ⟨lw_p32, List.forall_mem_cons.mpr ⟨lw_p33, List.forall_mem_cons.mpr ⟨lw_p34, List.forall_mem_cons.mpr ⟨lw_p35, List.forall_mem_cons.mpr ⟨lw_p36, List.forall_mem_cons.mpr ⟨lw_p37, List.forall_mem_cons.mpr ⟨lw_p38, List.forall_mem_cons.mpr ⟨lw_p39, List.forall_mem_cons.mpr ⟨lw_p40, List.forall_mem_cons.mpr ⟨lw_p41, List.forall_mem_cons.mpr ⟨lw_p42, List.forall_mem_cons.mpr ⟨lw_p43, List.forall_mem_cons.mpr ⟨lw_p44, List.forall_mem_cons.mpr ⟨lw_p45, List.forall_mem_cons.mpr ⟨lw_p46, List.forall_mem_cons.mpr ⟨lw_p47, fun _ h => absurd h List.not_mem_nil⟩⟩⟩⟩⟩⟩⟩⟩⟩⟩⟩⟩⟩⟩⟩⟩
theorem lw_p48 : lw_okq (⟨"DrawerCabinetModel", "markTaking", "(I)V"⟩, 16) := ⟨⟨by decide +kernel, by decide +kernel⟩, List.mem_of_getElem? (i := 522) (by decide +kernel), List.mem_of_getElem? (i := 772) (by decide +kernel), List.mem_of_getElem? (i := 773) (by decide +kernel)⟩
theorem lw_p49 : lw_okq (⟨"DrawerCabinetModel", "areAll", "(I)Z"⟩, 16) := ⟨⟨by decide +kernel, by decide +kernel⟩, List.mem_of_getElem? (i := 522) (by decide +kernel), List.mem_of_getElem? (i := 776) (by decide +kernel), List.mem_of_getElem? (i := 777) (by decide +kernel)⟩
theorem lw_p50 : lw_okq (⟨"DrawerCabinetModel", "gather", "(I)Z"⟩, 16) := ⟨⟨by decide +kernel, by decide +kernel⟩, List.mem_of_getElem? (i := 522) (by decide +kernel), List.mem_of_getElem? (i := 780) (by decide +kernel), List.mem_of_getElem? (i := 781) (by decide +kernel)⟩
theorem lw_p51 : lw_okq (⟨"DrawerCabinetModel", "takenMany", "(II)I"⟩, 16) := ⟨⟨by decide +kernel, by decide +kernel⟩, List.mem_of_getElem? (i := 522) (by decide +kernel), List.mem_of_getElem? (i := 784) (by decide +kernel), List.mem_of_getElem? (i := 785) (by decide +kernel)⟩
theorem lw_p52 : lw_okq (⟨"DrawerCabinetModel", "takenSet", "(II)I"⟩, 16) := ⟨⟨by decide +kernel, by decide +kernel⟩, List.mem_of_getElem? (i := 522) (by decide +kernel), List.mem_of_getElem? (i := 788) (by decide +kernel), List.mem_of_getElem? (i := 789) (by decide +kernel)⟩
theorem lw_p53 : lw_okq (⟨"DrawerCabinetModel", "takenSeals", "()I"⟩, 16) := ⟨⟨by decide +kernel, by decide +kernel⟩, List.mem_of_getElem? (i := 522) (by decide +kernel), List.mem_of_getElem? (i := 792) (by decide +kernel), List.mem_of_getElem? (i := 793) (by decide +kernel)⟩
theorem lw_p54 : lw_okq (⟨"DrawerCabinetModel", "thingsIn", "(I)I"⟩, 16) := ⟨⟨by decide +kernel, by decide +kernel⟩, List.mem_of_getElem? (i := 522) (by decide +kernel), List.mem_of_getElem? (i := 804) (by decide +kernel), List.mem_of_getElem? (i := 805) (by decide +kernel)⟩
theorem lw_p55 : lw_okq (⟨"DrawerCabinetModel", "outersOf", "(I)I"⟩, 16) := ⟨⟨by decide +kernel, by decide +kernel⟩, List.mem_of_getElem? (i := 522) (by decide +kernel), List.mem_of_getElem? (i := 808) (by decide +kernel), List.mem_of_getElem? (i := 809) (by decide +kernel)⟩
theorem lw_p56 : lw_okq (⟨"DrawerCabinetModel", "handSet", "()I"⟩, 16) := ⟨⟨by decide +kernel, by decide +kernel⟩, List.mem_of_getElem? (i := 522) (by decide +kernel), List.mem_of_getElem? (i := 839) (by decide +kernel), List.mem_of_getElem? (i := 840) (by decide +kernel)⟩
theorem lw_p57 : lw_okq (⟨"DrawerCabinetModel", "stuckSet", "()I"⟩, 16) := ⟨⟨by decide +kernel, by decide +kernel⟩, List.mem_of_getElem? (i := 522) (by decide +kernel), List.mem_of_getElem? (i := 843) (by decide +kernel), List.mem_of_getElem? (i := 844) (by decide +kernel)⟩
theorem lw_p58 : lw_okq (⟨"DrawerCabinetModel", "openableSet", "()I"⟩, 16) := ⟨⟨by decide +kernel, by decide +kernel⟩, List.mem_of_getElem? (i := 522) (by decide +kernel), List.mem_of_getElem? (i := 847) (by decide +kernel), List.mem_of_getElem? (i := 848) (by decide +kernel)⟩
def lw_privs_4 : List (MethodName × Nat) := [(⟨"DrawerCabinetModel", "markTaking", "(I)V"⟩, 16), (⟨"DrawerCabinetModel", "areAll", "(I)Z"⟩, 16), (⟨"DrawerCabinetModel", "gather", "(I)Z"⟩, 16), (⟨"DrawerCabinetModel", "takenMany", "(II)I"⟩, 16), (⟨"DrawerCabinetModel", "takenSet", "(II)I"⟩, 16), (⟨"DrawerCabinetModel", "takenSeals", "()I"⟩, 16), (⟨"DrawerCabinetModel", "thingsIn", "(I)I"⟩, 16), (⟨"DrawerCabinetModel", "outersOf", "(I)I"⟩, 16), (⟨"DrawerCabinetModel", "handSet", "()I"⟩, 16), (⟨"DrawerCabinetModel", "stuckSet", "()I"⟩, 16), (⟨"DrawerCabinetModel", "openableSet", "()I"⟩, 16)]
theorem lw_r4 : ∀ q ∈ lw_privs_4, lw_okq q := List.forall_mem_cons.mpr ⟨lw_p48, List.forall_mem_cons.mpr ⟨lw_p49, List.forall_mem_cons.mpr ⟨lw_p50, List.forall_mem_cons.mpr ⟨lw_p51, List.forall_mem_cons.mpr ⟨lw_p52, List.forall_mem_cons.mpr ⟨lw_p53, List.forall_mem_cons.mpr ⟨lw_p54, List.forall_mem_cons.mpr ⟨lw_p55, List.forall_mem_cons.mpr ⟨lw_p56, List.forall_mem_cons.mpr ⟨lw_p57, List.forall_mem_cons.mpr ⟨lw_p58, fun _ h => absurd h List.not_mem_nil⟩⟩⟩⟩⟩⟩⟩⟩⟩⟩⟩
def lw_privs : List (MethodName × Nat) := lw_privs_1 ++ (lw_privs_2 ++ (lw_privs_3 ++ (lw_privs_4)))
def lw_tbl : List Cond := k2_sels lw_privs ++ tables_1
theorem lw_privs_ok : ∀ q ∈ lw_privs, lw_okq q := by
  show ∀ q ∈ lw_privs_1 ++ (lw_privs_2 ++ (lw_privs_3 ++ (lw_privs_4))), lw_okq q
  exact List.forall_mem_append.mpr ⟨lw_r1, List.forall_mem_append.mpr ⟨lw_r2, List.forall_mem_append.mpr ⟨lw_r3, lw_r4⟩⟩⟩
/-- the streams that the claim lets the run draw from -/
abbrev lw_cs : List Choice := [Jvm.Choice.named "NaN.bits"]
theorem lw_bits : nanBits ∈ lw_cs := by first | decide | exact List.mem_cons_self | simp [lw_cs, nanBits]
/-! ===== BEGIN words of one list among another's, by their places ===== -/
theorem goodIn_r {big : List Cond} (ws : List Cond) (ps : List Nat) (hp : ws = ps.filterMap (fun i => big[i]?)) (h : ws.all goodWord = true) : GoodIn big ws := by
  intro w hw
  have h1 := List.all_eq_true.mp h w hw
  rw [hp] at hw
  obtain ⟨i, -, hi⟩ := List.mem_filterMap.mp hw
  have hm : w ∈ big := by first | exact List.mem_of_getElem? hi | exact List.getElem?_mem hi
  exact ⟨hm, good_of_word h1⟩
theorem goodIn_app {big a b : List Cond} (ha : GoodIn big a) (hb : GoodIn big b) : GoodIn big (a ++ b) := fun w h => (List.mem_append.mp h).elim (ha w) (hb w)
theorem goodIn_ca {big a b : List Cond} {c : Cond} (ha : GoodIn big (c :: a)) (hb : GoodIn big b) : GoodIn big (c :: (a ++ b)) := fun w h => (List.mem_cons.mp h).elim (fun e => ha w (List.mem_cons.mpr (Or.inl e))) (fun h => (List.mem_append.mp h).elim (fun h => ha w (List.mem_cons.mpr (Or.inr h))) (hb w))
theorem goodIn_sub {big ws : List Cond} (hm : ∀ w ∈ ws, w ∈ big) (h : ws.all goodWord = true) : GoodIn big ws := fun w hw => ⟨hm w hw, good_of_word (List.all_eq_true.mp h w hw)⟩
/-! ===== END ===== -/

/-! ===== BEGIN printed: names, fields, word lists, decode rows ===== -/
def RX0 : String := "DrawerCabinet$DrawerText"
def TX0 : u_T := fun k => match k with
  | 0 => ("DrawerCabinet$DrawerText", "signs", "[C", true)
  | 1 => ("DrawerCabinet$DrawerText", "length", "I", false)
  | 2 => ("DrawerCabinet$DrawerText", "at", "I", false)
  | 3 => ("DrawerCabinet$DrawerText", "found", "I", false)
  | 4 => ("DrawerCabinet$DrawerText", "outer", "[I", true)
  | 5 => ("DrawerCabinet$DrawerText", "hold", "[I", true)
  | 6 => ("DrawerCabinet$DrawerText", "by", "[I", true)
  | _ => ("DrawerCabinet$DrawerText", "bottoms", "[I", true)
def tyX0 : Nat → FieldType := fun k => match k with
  | 0 => .array .char
  | 1 => .int
  | 2 => .int
  | 3 => .int
  | 4 => .array .int
  | 5 => .array .int
  | 6 => .array .int
  | _ => .array .int
abbrev wsX00 : List Cond := u_ws RX0 TX0 8
theorem nmX0 : ∀ a, a < 8 → ∀ b, b < 8 → a ≠ b → (TX0 a).2.1 ≠ (TX0 b).2.1 := by decide +kernel
theorem tyX0_ok : ∀ k, k < 8 → parseFieldDescriptor (TX0 k).2.2.1 = some (tyX0 k) := by decide +kernel
abbrev cX0_init : ByteArray := prog_2_method_1_code
def yX0_init : MethodName := ⟨RX0, "<init>", "()V"⟩
abbrev cX0_append : ByteArray := prog_2_method_2_code
def yX0_append : MethodName := ⟨RX0, "append", "(C)Z"⟩
abbrev cX0_readAll : ByteArray := prog_2_method_3_code
def yX0_readAll : MethodName := ⟨RX0, "readAll", "()I"⟩
abbrev cX0_fitsBehind : ByteArray := prog_2_method_4_code
def yX0_fitsBehind : MethodName := ⟨RX0, "fitsBehind", "(I)Z"⟩
abbrev cX0_readDrawer : ByteArray := prog_2_method_5_code
def yX0_readDrawer : MethodName := ⟨RX0, "readDrawer", "()Z"⟩
abbrev cX0_readOuter : ByteArray := prog_2_method_6_code
def yX0_readOuter : MethodName := ⟨RX0, "readOuter", "()Z"⟩
abbrev cX0_readHold : ByteArray := prog_2_method_7_code
def yX0_readHold : MethodName := ⟨RX0, "readHold", "()Z"⟩
abbrev cX0_readBottoms : ByteArray := prog_2_method_8_code
def yX0_readBottoms : MethodName := ⟨RX0, "readBottoms", "()Z"⟩
abbrev cX0_readSign : ByteArray := prog_2_method_9_code
def yX0_readSign : MethodName := ⟨RX0, "readSign", "(C)Z"⟩
abbrev cX0_readNumber : ByteArray := prog_2_method_10_code
def yX0_readNumber : MethodName := ⟨RX0, "readNumber", "()I"⟩
abbrev cX0_readDigit : ByteArray := prog_2_method_11_code
def yX0_readDigit : MethodName := ⟨RX0, "readDigit", "(II)I"⟩
def RX1 : String := "DrawerCabinet$Plan"
def TX1 : u_T := fun k => match k with
  | 0 => ("DrawerCabinet$Plan", "openings", "I", false)
  | 1 => ("DrawerCabinet$Plan", "takings", "I", false)
  | _ => ("DrawerCabinet$Plan", "liftedTo", "[I", true)
def tyX1 : Nat → FieldType := fun k => match k with
  | 0 => .int
  | 1 => .int
  | _ => .array .int
abbrev wsX10 : List Cond := u_ws RX1 TX1 3
theorem nmX1 : ∀ a, a < 3 → ∀ b, b < 3 → a ≠ b → (TX1 a).2.1 ≠ (TX1 b).2.1 := by decide +kernel
theorem tyX1_ok : ∀ k, k < 3 → parseFieldDescriptor (TX1 k).2.2.1 = some (tyX1 k) := by decide +kernel
abbrev cX1_init : ByteArray := prog_3_method_1_code
def yX1_init : MethodName := ⟨RX1, "<init>", "()V"⟩
abbrev cX1_make : ByteArray := prog_3_method_2_code
def yX1_make : MethodName := ⟨RX1, "make", "(LDrawerCabinet$State;I)V"⟩
abbrev cX1_countSteps : ByteArray := prog_3_method_3_code
def yX1_countSteps : MethodName := ⟨RX1, "countSteps", "(LDrawerCabinet$State;)I"⟩
abbrev cX1_countLiftings : ByteArray := prog_3_method_4_code
def yX1_countLiftings : MethodName := ⟨RX1, "countLiftings", "(LDrawerCabinet$State;)I"⟩
abbrev cX1_firstStep : ByteArray := prog_3_method_5_code
def yX1_firstStep : MethodName := ⟨RX1, "firstStep", "(LDrawerCabinet$State;)I"⟩
abbrev cX1_isLiftingIn : ByteArray := prog_3_method_6_code
def yX1_isLiftingIn : MethodName := ⟨RX1, "isLiftingIn", "(LDrawerCabinet$State;I)Z"⟩
abbrev cX1_addNeedsOfAll : ByteArray := prog_3_method_7_code
def yX1_addNeedsOfAll : MethodName := ⟨RX1, "addNeedsOfAll", "(LDrawerCabinet$State;)V"⟩
abbrev cX1_addWayInto : ByteArray := prog_3_method_8_code
def yX1_addWayInto : MethodName := ⟨RX1, "addWayInto", "(LDrawerCabinet$State;I)V"⟩
abbrev cX1_addNeedsOfOpening : ByteArray := prog_3_method_9_code
def yX1_addNeedsOfOpening : MethodName := ⟨RX1, "addNeedsOfOpening", "(LDrawerCabinet$State;I)V"⟩
abbrev cX1_addNeedsOfTaking : ByteArray := prog_3_method_10_code
def yX1_addNeedsOfTaking : MethodName := ⟨RX1, "addNeedsOfTaking", "(LDrawerCabinet$State;I)V"⟩
abbrev cX1_addOpening : ByteArray := prog_3_method_11_code
def yX1_addOpening : MethodName := ⟨RX1, "addOpening", "(LDrawerCabinet$State;I)V"⟩
abbrev cX1_addTaking : ByteArray := prog_3_method_12_code
def yX1_addTaking : MethodName := ⟨RX1, "addTaking", "(LDrawerCabinet$State;I)V"⟩
def RX2 : String := "DrawerCabinet$State"
def TX2 : u_T := fun k => match k with
  | 0 => ("DrawerCabinet$State", "drawers", "I", false)
  | 1 => ("DrawerCabinet$State", "game", "Z", false)
  | 2 => ("DrawerCabinet$State", "steps", "I", false)
  | 3 => ("DrawerCabinet$State", "quarters", "I", false)
  | 4 => ("DrawerCabinet$State", "opened", "I", false)
  | 5 => ("DrawerCabinet$State", "broken", "I", false)
  | 6 => ("DrawerCabinet$State", "inHand", "I", false)
  | 7 => ("DrawerCabinet$State", "outer", "[I", true)
  | 8 => ("DrawerCabinet$State", "hold", "[I", true)
  | 9 => ("DrawerCabinet$State", "by", "[I", true)
  | 10 => ("DrawerCabinet$State", "stiffness", "[I", true)
  | 11 => ("DrawerCabinet$State", "bottoms", "[I", true)
  | 12 => ("DrawerCabinet$State", "lifted", "[I", true)
  | 13 => ("DrawerCabinet$State", "place", "[I", true)
  | _ => ("DrawerCabinet$State", "depth", "[I", true)
def tyX2 : Nat → FieldType := fun k => match k with
  | 0 => .int
  | 1 => .boolean
  | 2 => .int
  | 3 => .int
  | 4 => .int
  | 5 => .int
  | 6 => .int
  | 7 => .array .int
  | 8 => .array .int
  | 9 => .array .int
  | 10 => .array .int
  | 11 => .array .int
  | 12 => .array .int
  | 13 => .array .int
  | _ => .array .int
abbrev wsX20 : List Cond := u_ws RX2 TX2 15
theorem nmX2 : ∀ a, a < 15 → ∀ b, b < 15 → a ≠ b → (TX2 a).2.1 ≠ (TX2 b).2.1 := by decide +kernel
theorem tyX2_ok : ∀ k, k < 15 → parseFieldDescriptor (TX2 k).2.2.1 = some (tyX2 k) := by decide +kernel
abbrev cX2_init : ByteArray := prog_4_method_1_code
def yX2_init : MethodName := ⟨RX2, "<init>", "()V"⟩
abbrev cX2_copyFrom : ByteArray := prog_4_method_2_code
def yX2_copyFrom : MethodName := ⟨RX2, "copyFrom", "(LDrawerCabinet$State;)V"⟩
abbrev cX2_addDrawer : ByteArray := prog_4_method_3_code
def yX2_addDrawer : MethodName := ⟨RX2, "addDrawer", "(IIIII)V"⟩
abbrev cX2_changeBottoms : ByteArray := prog_4_method_4_code
def yX2_changeBottoms : MethodName := ⟨RX2, "changeBottoms", "(II)V"⟩
abbrev cX2_putBack : ByteArray := prog_4_method_5_code
def yX2_putBack : MethodName := ⟨RX2, "putBack", "()V"⟩
abbrev cX2_isThere : ByteArray := prog_4_method_6_code
def yX2_isThere : MethodName := ⟨RX2, "isThere", "(I)Z"⟩
abbrev cX2_isOpen : ByteArray := prog_4_method_7_code
def yX2_isOpen : MethodName := ⟨RX2, "isOpen", "(I)Z"⟩
abbrev cX2_isInHand : ByteArray := prog_4_method_8_code
def yX2_isInHand : MethodName := ⟨RX2, "isInHand", "(I)Z"⟩
abbrev cX2_isReached : ByteArray := prog_4_method_9_code
def yX2_isReached : MethodName := ⟨RX2, "isReached", "(I)Z"⟩
abbrev cX2_canOpen : ByteArray := prog_4_method_10_code
def yX2_canOpen : MethodName := ⟨RX2, "canOpen", "(I)Z"⟩
abbrev cX2_isLetByHold : ByteArray := prog_4_method_11_code
def yX2_isLetByHold : MethodName := ⟨RX2, "isLetByHold", "(I)Z"⟩
abbrev cX2_hasBottomLeft : ByteArray := prog_4_method_12_code
def yX2_hasBottomLeft : MethodName := ⟨RX2, "hasBottomLeft", "(I)Z"⟩
abbrev cX2_canLift : ByteArray := prog_4_method_13_code
def yX2_canLift : MethodName := ⟨RX2, "canLift", "(I)Z"⟩
abbrev cX2_canTake : ByteArray := prog_4_method_14_code
def yX2_canTake : MethodName := ⟨RX2, "canTake", "(I)Z"⟩
abbrev cX2_canSeal : ByteArray := prog_4_method_15_code
def yX2_canSeal : MethodName := ⟨RX2, "canSeal", "(I)Z"⟩
abbrev cX2_setOpen : ByteArray := prog_4_method_16_code
def yX2_setOpen : MethodName := ⟨RX2, "setOpen", "(I)V"⟩
abbrev cX2_addStep : ByteArray := prog_4_method_17_code
def yX2_addStep : MethodName := ⟨RX2, "addStep", "(I)V"⟩
abbrev cX2_makeAllSteps : ByteArray := prog_4_method_18_code
def yX2_makeAllSteps : MethodName := ⟨RX2, "makeAllSteps", "()V"⟩
abbrev cX2_makeSteps : ByteArray := prog_4_method_19_code
def yX2_makeSteps : MethodName := ⟨RX2, "makeSteps", "()Z"⟩
abbrev cX2_hasAllHolders : ByteArray := prog_4_method_20_code
def yX2_hasAllHolders : MethodName := ⟨RX2, "hasAllHolders", "()Z"⟩
abbrev cX2_openableNow : ByteArray := prog_4_method_21_code
def yX2_openableNow : MethodName := ⟨RX2, "openableNow", "()I"⟩
abbrev cX2_countWholeSeals : ByteArray := prog_4_method_22_code
def yX2_countWholeSeals : MethodName := ⟨RX2, "countWholeSeals", "(I)I"⟩
abbrev cX2_countThingsInDrawers : ByteArray := prog_4_method_23_code
def yX2_countThingsInDrawers : MethodName := ⟨RX2, "countThingsInDrawers", "()I"⟩
abbrev cX2_countThingsIn : ByteArray := prog_4_method_24_code
def yX2_countThingsIn : MethodName := ⟨RX2, "countThingsIn", "(I)I"⟩
abbrev cX2_countOuters : ByteArray := prog_4_method_25_code
def yX2_countOuters : MethodName := ⟨RX2, "countOuters", "(I)I"⟩
def RX3 : String := "DrawerCabinet"
def TX3 : u_T := fun k => match k with
  | 0 => ("DrawerCabinet", "now", "LDrawerCabinet$State;", true)
  | 1 => ("DrawerCabinet", "snapshot", "LDrawerCabinet$State;", true)
  | 2 => ("DrawerCabinet", "trial", "LDrawerCabinet$State;", true)
  | 3 => ("DrawerCabinet", "history", "[LDrawerCabinet$State;", true)
  | 4 => ("DrawerCabinet", "plan", "LDrawerCabinet$Plan;", true)
  | 5 => ("DrawerCabinet", "text", "LDrawerCabinet$DrawerText;", true)
  | 6 => ("DrawerCabinet", "past", "I", false)
  | _ => ("DrawerCabinet", "kept", "Z", false)
def tyX3 : Nat → FieldType := fun k => match k with
  | 0 => .object "DrawerCabinet$State"
  | 1 => .object "DrawerCabinet$State"
  | 2 => .object "DrawerCabinet$State"
  | 3 => .array (.object "DrawerCabinet$State")
  | 4 => .object "DrawerCabinet$Plan"
  | 5 => .object "DrawerCabinet$DrawerText"
  | 6 => .int
  | _ => .boolean
abbrev wsX30 : List Cond := u_ws RX3 TX3 8
theorem nmX3 : ∀ a, a < 8 → ∀ b, b < 8 → a ≠ b → (TX3 a).2.1 ≠ (TX3 b).2.1 := by decide +kernel
theorem tyX3_ok : ∀ k, k < 8 → parseFieldDescriptor (TX3 k).2.2.1 = some (tyX3 k) := by decide +kernel
abbrev cX3_init : ByteArray := prog_1_method_1_code
def yX3_init : MethodName := ⟨RX3, "<init>", "()V"⟩
abbrev cX3_build : ByteArray := prog_1_method_2_code
def yX3_build : MethodName := ⟨RX3, "build", "(IIII)I"⟩
abbrev cX3_buildAll : ByteArray := prog_1_method_3_code
def yX3_buildAll : MethodName := ⟨RX3, "buildAll", "()I"⟩
abbrev cX3_setBottoms : ByteArray := prog_1_method_4_code
def yX3_setBottoms : MethodName := ⟨RX3, "setBottoms", "(II)I"⟩
abbrev cX3_lay : ByteArray := prog_1_method_5_code
def yX3_lay : MethodName := ⟨RX3, "lay", "(III)I"⟩
abbrev cX3_begin : ByteArray := prog_1_method_6_code
def yX3_begin : MethodName := ⟨RX3, "begin", "()I"⟩
abbrev cX3_giveUp : ByteArray := prog_1_method_7_code
def yX3_giveUp : MethodName := ⟨RX3, "giveUp", "()I"⟩
abbrev cX3_open : ByteArray := prog_1_method_8_code
def yX3_open : MethodName := ⟨RX3, "open", "(I)I"⟩
abbrev cX3_close : ByteArray := prog_1_method_9_code
def yX3_close : MethodName := ⟨RX3, "close", "(I)I"⟩
abbrev cX3_lift : ByteArray := prog_1_method_10_code
def yX3_lift : MethodName := ⟨RX3, "lift", "(I)I"⟩
abbrev cX3_take : ByteArray := prog_1_method_11_code
def yX3_take : MethodName := ⟨RX3, "take", "(I)I"⟩
abbrev cX3_seal : ByteArray := prog_1_method_12_code
def yX3_seal : MethodName := ⟨RX3, "seal", "(I)I"⟩
abbrev cX3_type : ByteArray := prog_1_method_13_code
def yX3_type : MethodName := ⟨RX3, "type", "(C)I"⟩
abbrev cX3_clearText : ByteArray := prog_1_method_14_code
def yX3_clearText : MethodName := ⟨RX3, "clearText", "()I"⟩
abbrev cX3_undo : ByteArray := prog_1_method_15_code
def yX3_undo : MethodName := ⟨RX3, "undo", "()I"⟩
abbrev cX3_keep : ByteArray := prog_1_method_16_code
def yX3_keep : MethodName := ⟨RX3, "keep", "()I"⟩
abbrev cX3_restore : ByteArray := prog_1_method_17_code
def yX3_restore : MethodName := ⟨RX3, "restore", "()I"⟩
abbrev cX3_drawer : ByteArray := prog_1_method_18_code
def yX3_drawer : MethodName := ⟨RX3, "drawer", "(II)I"⟩
abbrev cX3_thing : ByteArray := prog_1_method_19_code
def yX3_thing : MethodName := ⟨RX3, "thing", "(II)I"⟩
abbrev cX3_needs : ByteArray := prog_1_method_20_code
def yX3_needs : MethodName := ⟨RX3, "needs", "(II)I"⟩
abbrev cX3_hint : ByteArray := prog_1_method_21_code
def yX3_hint : MethodName := ⟨RX3, "hint", "(I)I"⟩
abbrev cX3_minutes : ByteArray := prog_1_method_22_code
def yX3_minutes : MethodName := ⟨RX3, "minutes", "()D"⟩
abbrev cX3_minutesBits : ByteArray := prog_1_method_23_code
def yX3_minutesBits : MethodName := ⟨RX3, "minutesBits", "()I"⟩
abbrev cX3_count : ByteArray := prog_1_method_24_code
def yX3_count : MethodName := ⟨RX3, "count", "(I)I"⟩
abbrev cX3_isHold : ByteArray := prog_1_method_25_code
def yX3_isHold : MethodName := ⟨RX3, "isHold", "(II)Z"⟩
abbrev cX3_isThing : ByteArray := prog_1_method_26_code
def yX3_isThing : MethodName := ⟨RX3, "isThing", "(I)Z"⟩
abbrev cX3_oneIf : ByteArray := prog_1_method_27_code
def yX3_oneIf : MethodName := ⟨RX3, "oneIf", "(Z)I"⟩
abbrev cX3_bit : ByteArray := prog_1_method_28_code
def yX3_bit : MethodName := ⟨RX3, "bit", "(I)I"⟩
abbrev cX3_isIn : ByteArray := prog_1_method_29_code
def yX3_isIn : MethodName := ⟨RX3, "isIn", "(II)Z"⟩
abbrev cX3_bitsOf : ByteArray := prog_1_method_30_code
def yX3_bitsOf : MethodName := ⟨RX3, "bitsOf", "(F)I"⟩
abbrev cX3_recordState : ByteArray := prog_1_method_31_code
def yX3_recordState : MethodName := ⟨RX3, "recordState", "()V"⟩
abbrev cX3_dropOldest : ByteArray := prog_1_method_32_code
def yX3_dropOldest : MethodName := ⟨RX3, "dropOldest", "()V"⟩
abbrev cX3_copyState : ByteArray := prog_1_method_33_code
def yX3_copyState : MethodName := ⟨RX3, "copyState", "(LDrawerCabinet$State;LDrawerCabinet$State;)V"⟩
abbrev cX3_canComeTo : ByteArray := prog_1_method_34_code
def yX3_canComeTo : MethodName := ⟨RX3, "canComeTo", "(I)Z"⟩
abbrev cX3_neverOpened : ByteArray := prog_1_method_35_code
def yX3_neverOpened : MethodName := ⟨RX3, "neverOpened", "()I"⟩
def RX4 : String := "DrawerCabinetModel"
def TX4 : u_T := fun k => match k with
  | 0 => ("DrawerCabinetModel", "s", "[I", true)
  | 1 => ("DrawerCabinetModel", "before", "[I", true)
  | 2 => ("DrawerCabinetModel", "kept", "[I", true)
  | 3 => ("DrawerCabinetModel", "time", "[D", true)
  | 4 => ("DrawerCabinetModel", "needs", "[Z", true)
  | 5 => ("DrawerCabinetModel", "bad", "[Z", true)
  | 6 => ("DrawerCabinetModel", "can", "[Z", true)
  | 7 => ("DrawerCabinetModel", "taken", "[Z", true)
  | 8 => ("DrawerCabinetModel", "read", "[I", true)
  | 9 => ("DrawerCabinetModel", "text", "[C", true)
  | 10 => ("DrawerCabinetModel", "length", "I", false)
  | 11 => ("DrawerCabinetModel", "states", "I", false)
  | 12 => ("DrawerCabinetModel", "isKept", "Z", false)
  | 13 => ("DrawerCabinetModel", "asNow", "Z", false)
  | 14 => ("DrawerCabinetModel", "at", "I", false)
  | _ => ("DrawerCabinetModel", "many", "I", false)
def tyX4 : Nat → FieldType := fun k => match k with
  | 0 => .array .int
  | 1 => .array .int
  | 2 => .array .int
  | 3 => .array .double
  | 4 => .array .boolean
  | 5 => .array .boolean
  | 6 => .array .boolean
  | 7 => .array .boolean
  | 8 => .array .int
  | 9 => .array .char
  | 10 => .int
  | 11 => .int
  | 12 => .boolean
  | 13 => .boolean
  | 14 => .int
  | _ => .int
abbrev wsX40 : List Cond := u_ws RX4 TX4 16
theorem nmX4 : ∀ a, a < 16 → ∀ b, b < 16 → a ≠ b → (TX4 a).2.1 ≠ (TX4 b).2.1 := by decide +kernel
theorem tyX4_ok : ∀ k, k < 16 → parseFieldDescriptor (TX4 k).2.2.1 = some (tyX4 k) := by decide +kernel
abbrev cX4_init : ByteArray := prog_6_method_1_code
def yX4_init : MethodName := ⟨RX4, "<init>", "()V"⟩
abbrev cX4_in : ByteArray := prog_6_method_2_code
def yX4_in : MethodName := ⟨RX4, "in", "(III)Z"⟩
abbrev cX4_t : ByteArray := prog_6_method_3_code
def yX4_t : MethodName := ⟨RX4, "t", "(I)I"⟩
abbrev cX4_d : ByteArray := prog_6_method_4_code
def yX4_d : MethodName := ⟨RX4, "d", "(I)I"⟩
abbrev cX4_record : ByteArray := prog_6_method_5_code
def yX4_record : MethodName := ⟨RX4, "record", "()V"⟩
abbrev cX4_isDrawer : ByteArray := prog_6_method_6_code
def yX4_isDrawer : MethodName := ⟨RX4, "isDrawer", "(I)Z"⟩
abbrev cX4_isGame : ByteArray := prog_6_method_7_code
def yX4_isGame : MethodName := ⟨RX4, "isGame", "()Z"⟩
abbrev cX4_sumOf : ByteArray := prog_6_method_8_code
def yX4_sumOf : MethodName := ⟨RX4, "sumOf", "(I)I"⟩
abbrev cX4_goBuild : ByteArray := prog_6_method_9_code
def yX4_goBuild : MethodName := ⟨RX4, "goBuild", "(IIII)I"⟩
abbrev cX4_build : ByteArray := prog_6_method_10_code
def yX4_build : MethodName := ⟨RX4, "build", "(IIII)I"⟩
abbrev cX4_isSign : ByteArray := prog_6_method_11_code
def yX4_isSign : MethodName := ⟨RX4, "isSign", "(ICC)Z"⟩
abbrev cX4_readsNumber : ByteArray := prog_6_method_12_code
def yX4_readsNumber : MethodName := ⟨RX4, "readsNumber", "()I"⟩
abbrev cX4_readsHold : ByteArray := prog_6_method_13_code
def yX4_readsHold : MethodName := ⟨RX4, "readsHold", "(I)Z"⟩
abbrev cX4_readsDrawer : ByteArray := prog_6_method_14_code
def yX4_readsDrawer : MethodName := ⟨RX4, "readsDrawer", "()Z"⟩
abbrev cX4_faultOf : ByteArray := prog_6_method_15_code
def yX4_faultOf : MethodName := ⟨RX4, "faultOf", "()I"⟩
abbrev cX4_buildAll : ByteArray := prog_6_method_16_code
def yX4_buildAll : MethodName := ⟨RX4, "buildAll", "()I"⟩
abbrev cX4_setBottoms : ByteArray := prog_6_method_17_code
def yX4_setBottoms : MethodName := ⟨RX4, "setBottoms", "(II)I"⟩
abbrev cX4_laidMany : ByteArray := prog_6_method_18_code
def yX4_laidMany : MethodName := ⟨RX4, "laidMany", "()I"⟩
abbrev cX4_lay : ByteArray := prog_6_method_19_code
def yX4_lay : MethodName := ⟨RX4, "lay", "(III)I"⟩
abbrev cX4_lacksHolder : ByteArray := prog_6_method_20_code
def yX4_lacksHolder : MethodName := ⟨RX4, "lacksHolder", "()Z"⟩
abbrev cX4_asLaid : ByteArray := prog_6_method_21_code
def yX4_asLaid : MethodName := ⟨RX4, "asLaid", "()V"⟩
abbrev cX4_begin : ByteArray := prog_6_method_22_code
def yX4_begin : MethodName := ⟨RX4, "begin", "()I"⟩
abbrev cX4_giveUp : ByteArray := prog_6_method_23_code
def yX4_giveUp : MethodName := ⟨RX4, "giveUp", "()I"⟩
abbrev cX4_isReached : ByteArray := prog_6_method_24_code
def yX4_isReached : MethodName := ⟨RX4, "isReached", "(I)Z"⟩
abbrev cX4_canOpen : ByteArray := prog_6_method_25_code
def yX4_canOpen : MethodName := ⟨RX4, "canOpen", "(I)Z"⟩
abbrev cX4_canLift : ByteArray := prog_6_method_26_code
def yX4_canLift : MethodName := ⟨RX4, "canLift", "(I)Z"⟩
abbrev cX4_canTake : ByteArray := prog_6_method_27_code
def yX4_canTake : MethodName := ⟨RX4, "canTake", "(I)Z"⟩
abbrev cX4_step : ByteArray := prog_6_method_28_code
def yX4_step : MethodName := ⟨RX4, "step", "(D)V"⟩
abbrev cX4_turning : ByteArray := prog_6_method_29_code
def yX4_turning : MethodName := ⟨RX4, "turning", "(I)D"⟩
abbrev cX4_open : ByteArray := prog_6_method_30_code
def yX4_open : MethodName := ⟨RX4, "open", "(I)I"⟩
abbrev cX4_close : ByteArray := prog_6_method_31_code
def yX4_close : MethodName := ⟨RX4, "close", "(I)I"⟩
abbrev cX4_lift : ByteArray := prog_6_method_32_code
def yX4_lift : MethodName := ⟨RX4, "lift", "(I)I"⟩
abbrev cX4_handMany : ByteArray := prog_6_method_33_code
def yX4_handMany : MethodName := ⟨RX4, "handMany", "()I"⟩
abbrev cX4_take : ByteArray := prog_6_method_34_code
def yX4_take : MethodName := ⟨RX4, "take", "(I)I"⟩
abbrev cX4_seal : ByteArray := prog_6_method_35_code
def yX4_seal : MethodName := ⟨RX4, "seal", "(I)I"⟩
abbrev cX4_type : ByteArray := prog_6_method_36_code
def yX4_type : MethodName := ⟨RX4, "type", "(C)I"⟩
abbrev cX4_clearText : ByteArray := prog_6_method_37_code
def yX4_clearText : MethodName := ⟨RX4, "clearText", "()I"⟩
abbrev cX4_undo : ByteArray := prog_6_method_38_code
def yX4_undo : MethodName := ⟨RX4, "undo", "()I"⟩
abbrev cX4_keep : ByteArray := prog_6_method_39_code
def yX4_keep : MethodName := ⟨RX4, "keep", "()I"⟩
abbrev cX4_restore : ByteArray := prog_6_method_40_code
def yX4_restore : MethodName := ⟨RX4, "restore", "()I"⟩
abbrev cX4_isClosed : ByteArray := prog_6_method_41_code
def yX4_isClosed : MethodName := ⟨RX4, "isClosed", "(I)Z"⟩
abbrev cX4_isHand : ByteArray := prog_6_method_42_code
def yX4_isHand : MethodName := ⟨RX4, "isHand", "(I)Z"⟩
abbrev cX4_liftedOf : ByteArray := prog_6_method_43_code
def yX4_liftedOf : MethodName := ⟨RX4, "liftedOf", "(I)I"⟩
abbrev cX4_mark : ByteArray := prog_6_method_44_code
def yX4_mark : MethodName := ⟨RX4, "mark", "(II)V"⟩
abbrev cX4_markReach : ByteArray := prog_6_method_45_code
def yX4_markReach : MethodName := ⟨RX4, "markReach", "(IIZ)V"⟩
abbrev cX4_markOpening : ByteArray := prog_6_method_46_code
def yX4_markOpening : MethodName := ⟨RX4, "markOpening", "(I)V"⟩
abbrev cX4_markLiftings : ByteArray := prog_6_method_47_code
def yX4_markLiftings : MethodName := ⟨RX4, "markLiftings", "(I)V"⟩
abbrev cX4_markTaking : ByteArray := prog_6_method_48_code
def yX4_markTaking : MethodName := ⟨RX4, "markTaking", "(I)V"⟩
abbrev cX4_reckon : ByteArray := prog_6_method_49_code
def yX4_reckon : MethodName := ⟨RX4, "reckon", "(Z)V"⟩
abbrev cX4_areAll : ByteArray := prog_6_method_50_code
def yX4_areAll : MethodName := ⟨RX4, "areAll", "(I)Z"⟩
abbrev cX4_gather : ByteArray := prog_6_method_51_code
def yX4_gather : MethodName := ⟨RX4, "gather", "(I)Z"⟩
abbrev cX4_takenMany : ByteArray := prog_6_method_52_code
def yX4_takenMany : MethodName := ⟨RX4, "takenMany", "(II)I"⟩
abbrev cX4_takenSet : ByteArray := prog_6_method_53_code
def yX4_takenSet : MethodName := ⟨RX4, "takenSet", "(II)I"⟩
abbrev cX4_takenSeals : ByteArray := prog_6_method_54_code
def yX4_takenSeals : MethodName := ⟨RX4, "takenSeals", "()I"⟩
abbrev cX4_needs : ByteArray := prog_6_method_55_code
def yX4_needs : MethodName := ⟨RX4, "needs", "(II)I"⟩
abbrev cX4_hint : ByteArray := prog_6_method_56_code
def yX4_hint : MethodName := ⟨RX4, "hint", "(I)I"⟩
abbrev cX4_thingsIn : ByteArray := prog_6_method_57_code
def yX4_thingsIn : MethodName := ⟨RX4, "thingsIn", "(I)I"⟩
abbrev cX4_outersOf : ByteArray := prog_6_method_58_code
def yX4_outersOf : MethodName := ⟨RX4, "outersOf", "(I)I"⟩
abbrev cX4_drawer : ByteArray := prog_6_method_59_code
def yX4_drawer : MethodName := ⟨RX4, "drawer", "(II)I"⟩
abbrev cX4_thing : ByteArray := prog_6_method_60_code
def yX4_thing : MethodName := ⟨RX4, "thing", "(II)I"⟩
abbrev cX4_minutes : ByteArray := prog_6_method_61_code
def yX4_minutes : MethodName := ⟨RX4, "minutes", "()D"⟩
abbrev cX4_minutesBits : ByteArray := prog_6_method_62_code
def yX4_minutesBits : MethodName := ⟨RX4, "minutesBits", "()I"⟩
abbrev cX4_handSet : ByteArray := prog_6_method_63_code
def yX4_handSet : MethodName := ⟨RX4, "handSet", "()I"⟩
abbrev cX4_stuckSet : ByteArray := prog_6_method_64_code
def yX4_stuckSet : MethodName := ⟨RX4, "stuckSet", "()I"⟩
abbrev cX4_openableSet : ByteArray := prog_6_method_65_code
def yX4_openableSet : MethodName := ⟨RX4, "openableSet", "()I"⟩
abbrev cX4_count : ByteArray := prog_6_method_66_code
def yX4_count : MethodName := ⟨RX4, "count", "(I)I"⟩
def RJxf58ca : String := "java/lang/Float"
def TJxf58ca : u_T := fun k => match k with
  | _ => ("", "", "", false)
def tyJxf58ca : Nat → FieldType := fun k => match k with
  | _ => .int
abbrev wsJxf58ca0 : List Cond := u_ws RJxf58ca TJxf58ca 0
theorem nmJxf58ca : ∀ a, a < 0 → ∀ b, b < 0 → a ≠ b → (TJxf58ca a).2.1 ≠ (TJxf58ca b).2.1 := by decide +kernel
theorem tyJxf58ca_ok : ∀ k, k < 0 → parseFieldDescriptor (TJxf58ca k).2.2.1 = some (tyJxf58ca k) := by decide +kernel
abbrev cJxf58ca_isNaN_12338 : ByteArray := prog_7_method_6_code
def yJxf58ca_isNaN_12338 : MethodName := ⟨RJxf58ca, "isNaN", "(F)Z"⟩
abbrev cJxf58ca_floatToIntBits_5c35a : ByteArray := prog_7_method_24_code
def yJxf58ca_floatToIntBits_5c35a : MethodName := ⟨RJxf58ca, "floatToIntBits", "(F)I"⟩
def RJ6 : String := "java/lang/Integer"
def TJ6 : u_T := fun k => match k with
  | _ => ("", "", "", false)
def tyJ6 : Nat → FieldType := fun k => match k with
  | _ => .int
abbrev wsJ60 : List Cond := u_ws RJ6 TJ6 0
theorem nmJ6 : ∀ a, a < 0 → ∀ b, b < 0 → a ≠ b → (TJ6 a).2.1 ≠ (TJ6 b).2.1 := by decide +kernel
theorem tyJ6_ok : ∀ k, k < 0 → parseFieldDescriptor (TJ6 k).2.2.1 = some (tyJ6 k) := by decide +kernel
abbrev cJ6_bitCount_0f7a4 : ByteArray := prog_8_method_49_code
def yJ6_bitCount_0f7a4 : MethodName := ⟨RJ6, "bitCount", "(I)I"⟩
def RJ9 : String := "java/lang/Math"
def TJ9 : u_T := fun k => match k with
  | _ => ("", "", "", false)
def tyJ9 : Nat → FieldType := fun k => match k with
  | _ => .int
abbrev wsJ90 : List Cond := u_ws RJ9 TJ9 0
theorem nmJ9 : ∀ a, a < 0 → ∀ b, b < 0 → a ≠ b → (TJ9 a).2.1 ≠ (TJ9 b).2.1 := by decide +kernel
theorem tyJ9_ok : ∀ k, k < 0 → parseFieldDescriptor (TJ9 k).2.2.1 = some (tyJ9 k) := by decide +kernel
abbrev cJ9_max_7cf53 : ByteArray := prog_9_method_65_code
def yJ9_max_7cf53 : MethodName := ⟨RJ9, "max", "(II)I"⟩
def RJ10 : String := "java/lang/System"
def TJ10 : u_T := fun k => match k with
  | _ => ("", "", "", false)
def tyJ10 : Nat → FieldType := fun k => match k with
  | _ => .int
abbrev wsJ100 : List Cond := u_ws RJ10 TJ10 0
theorem nmJ10 : ∀ a, a < 0 → ∀ b, b < 0 → a ≠ b → (TJ10 a).2.1 ≠ (TJ10 b).2.1 := by decide +kernel
theorem tyJ10_ok : ∀ k, k < 0 → parseFieldDescriptor (TJ10 k).2.2.1 = some (tyJ10 k) := by decide +kernel
def RL : String := "DrawerCabinetLaw"
abbrev cL_law : ByteArray := code
def yL_law : MethodName := ⟨RL, "law", "([I)Z"⟩
abbrev vwCl : List vw_C := [(RX0, TX0, 8), (RX1, TX1, 3), (RX2, TX2, 15), (RX3, TX3, 8), (RX4, TX4, 16)]
/-! my tables: classes, methods, links -/
def CN : Nat → String := fun k => match k with
  | 0 => RX0
  | 1 => RX1
  | 2 => RX2
  | 3 => RX3
  | 4 => RX4
  | 5 => RJxf58ca
  | 6 => RJ6
  | 7 => RJ9
  | 8 => RJ10
  | _ => RL
def MT_0 : List (Nat × MethodName × ByteArray × Nat × Option FieldType × Nat) := [(0, yX0_init, cX0_init, 1, none, 0),
  (0, yX0_append, cX0_append, 2, (some .boolean), 1),
  (0, yX0_readAll, cX0_readAll, 3, (some .int), 0),
  (0, yX0_fitsBehind, cX0_fitsBehind, 3, (some .boolean), 1),
  (0, yX0_readDrawer, cX0_readDrawer, 1, (some .boolean), 0),
  (0, yX0_readOuter, cX0_readOuter, 1, (some .boolean), 0),
  (0, yX0_readHold, cX0_readHold, 1, (some .boolean), 0),
  (0, yX0_readBottoms, cX0_readBottoms, 1, (some .boolean), 0),
  (0, yX0_readSign, cX0_readSign, 2, (some .boolean), 1),
  (0, yX0_readNumber, cX0_readNumber, 3, (some .int), 0),
  (0, yX0_readDigit, cX0_readDigit, 4, (some .int), 2),
  (1, yX1_init, cX1_init, 1, none, 0),
  (1, yX1_make, cX1_make, 5, none, 2),
  (1, yX1_countSteps, cX1_countSteps, 2, (some .int), 1),
  (1, yX1_countLiftings, cX1_countLiftings, 4, (some .int), 1),
  (1, yX1_firstStep, cX1_firstStep, 4, (some .int), 1),
  (1, yX1_isLiftingIn, cX1_isLiftingIn, 3, (some .boolean), 2),
  (1, yX1_addNeedsOfAll, cX1_addNeedsOfAll, 3, none, 1),
  (1, yX1_addWayInto, cX1_addWayInto, 5, none, 2),
  (1, yX1_addNeedsOfOpening, cX1_addNeedsOfOpening, 3, none, 2),
  (1, yX1_addNeedsOfTaking, cX1_addNeedsOfTaking, 4, none, 2),
  (1, yX1_addOpening, cX1_addOpening, 3, none, 2),
  (1, yX1_addTaking, cX1_addTaking, 3, none, 2),
  (2, yX2_init, cX2_init, 2, none, 0),
  (2, yX2_copyFrom, cX2_copyFrom, 2, none, 1),
  (2, yX2_addDrawer, cX2_addDrawer, 6, none, 5),
  (2, yX2_changeBottoms, cX2_changeBottoms, 4, none, 2),
  (2, yX2_putBack, cX2_putBack, 2, none, 0),
  (2, yX2_isThere, cX2_isThere, 2, (some .boolean), 1),
  (2, yX2_isOpen, cX2_isOpen, 2, (some .boolean), 1),
  (2, yX2_isInHand, cX2_isInHand, 2, (some .boolean), 1),
  (2, yX2_isReached, cX2_isReached, 4, (some .boolean), 1),
  (2, yX2_canOpen, cX2_canOpen, 2, (some .boolean), 1),
  (2, yX2_isLetByHold, cX2_isLetByHold, 2, (some .boolean), 1),
  (2, yX2_hasBottomLeft, cX2_hasBottomLeft, 2, (some .boolean), 1),
  (2, yX2_canLift, cX2_canLift, 2, (some .boolean), 1),
  (2, yX2_canTake, cX2_canTake, 3, (some .boolean), 1),
  (2, yX2_canSeal, cX2_canSeal, 2, (some .boolean), 1),
  (2, yX2_setOpen, cX2_setOpen, 2, none, 1),
  (2, yX2_addStep, cX2_addStep, 2, none, 1)]
def MT_1 : List (Nat × MethodName × ByteArray × Nat × Option FieldType × Nat) := [(2, yX2_makeAllSteps, cX2_makeAllSteps, 3, none, 0),
  (2, yX2_makeSteps, cX2_makeSteps, 3, (some .boolean), 0),
  (2, yX2_hasAllHolders, cX2_hasAllHolders, 2, (some .boolean), 0),
  (2, yX2_openableNow, cX2_openableNow, 3, (some .int), 0),
  (2, yX2_countWholeSeals, cX2_countWholeSeals, 4, (some .int), 1),
  (2, yX2_countThingsInDrawers, cX2_countThingsInDrawers, 3, (some .int), 0),
  (2, yX2_countThingsIn, cX2_countThingsIn, 4, (some .int), 1),
  (2, yX2_countOuters, cX2_countOuters, 4, (some .int), 1),
  (3, yX3_init, cX3_init, 2, none, 0),
  (3, yX3_build, cX3_build, 5, (some .int), 4),
  (3, yX3_buildAll, cX3_buildAll, 3, (some .int), 0),
  (3, yX3_setBottoms, cX3_setBottoms, 4, (some .int), 2),
  (3, yX3_lay, cX3_lay, 5, (some .int), 3),
  (3, yX3_begin, cX3_begin, 1, (some .int), 0),
  (3, yX3_giveUp, cX3_giveUp, 2, (some .int), 0),
  (3, yX3_open, cX3_open, 2, (some .int), 1),
  (3, yX3_close, cX3_close, 2, (some .int), 1),
  (3, yX3_lift, cX3_lift, 2, (some .int), 1),
  (3, yX3_take, cX3_take, 2, (some .int), 1),
  (3, yX3_seal, cX3_seal, 2, (some .int), 1),
  (3, yX3_type, cX3_type, 2, (some .int), 1),
  (3, yX3_clearText, cX3_clearText, 2, (some .int), 0),
  (3, yX3_undo, cX3_undo, 1, (some .int), 0),
  (3, yX3_keep, cX3_keep, 1, (some .int), 0),
  (3, yX3_restore, cX3_restore, 1, (some .int), 0),
  (3, yX3_drawer, cX3_drawer, 3, (some .int), 2),
  (3, yX3_thing, cX3_thing, 4, (some .int), 2),
  (3, yX3_needs, cX3_needs, 3, (some .int), 2),
  (3, yX3_hint, cX3_hint, 2, (some .int), 1),
  (3, yX3_minutes, cX3_minutes, 1, (some .double), 0),
  (3, yX3_minutesBits, cX3_minutesBits, 1, (some .int), 0),
  (3, yX3_count, cX3_count, 2, (some .int), 1),
  (3, yX3_isHold, cX3_isHold, 2, (some .boolean), 2),
  (3, yX3_isThing, cX3_isThing, 1, (some .boolean), 1),
  (3, yX3_oneIf, cX3_oneIf, 1, (some .int), 1),
  (3, yX3_bit, cX3_bit, 1, (some .int), 1),
  (3, yX3_isIn, cX3_isIn, 2, (some .boolean), 2),
  (3, yX3_bitsOf, cX3_bitsOf, 4, (some .int), 1),
  (3, yX3_recordState, cX3_recordState, 1, none, 0),
  (3, yX3_dropOldest, cX3_dropOldest, 3, none, 0)]
def MT_2 : List (Nat × MethodName × ByteArray × Nat × Option FieldType × Nat) := [(3, yX3_copyState, cX3_copyState, 2, none, 2),
  (3, yX3_canComeTo, cX3_canComeTo, 2, (some .boolean), 1),
  (3, yX3_neverOpened, cX3_neverOpened, 1, (some .int), 0),
  (4, yX4_init, cX4_init, 2, none, 0),
  (4, yX4_in, cX4_in, 3, (some .boolean), 3),
  (4, yX4_t, cX4_t, 1, (some .int), 1),
  (4, yX4_d, cX4_d, 1, (some .int), 1),
  (4, yX4_record, cX4_record, 2, none, 0),
  (4, yX4_isDrawer, cX4_isDrawer, 2, (some .boolean), 1),
  (4, yX4_isGame, cX4_isGame, 1, (some .boolean), 0),
  (4, yX4_sumOf, cX4_sumOf, 4, (some .int), 1),
  (4, yX4_goBuild, cX4_goBuild, 6, (some .int), 4),
  (4, yX4_build, cX4_build, 5, (some .int), 4),
  (4, yX4_isSign, cX4_isSign, 4, (some .boolean), 3),
  (4, yX4_readsNumber, cX4_readsNumber, 2, (some .int), 0),
  (4, yX4_readsHold, cX4_readsHold, 3, (some .boolean), 1),
  (4, yX4_readsDrawer, cX4_readsDrawer, 2, (some .boolean), 0),
  (4, yX4_faultOf, cX4_faultOf, 2, (some .int), 0),
  (4, yX4_buildAll, cX4_buildAll, 4, (some .int), 0),
  (4, yX4_setBottoms, cX4_setBottoms, 6, (some .int), 2),
  (4, yX4_laidMany, cX4_laidMany, 3, (some .int), 0),
  (4, yX4_lay, cX4_lay, 4, (some .int), 3),
  (4, yX4_lacksHolder, cX4_lacksHolder, 3, (some .boolean), 0),
  (4, yX4_asLaid, cX4_asLaid, 2, none, 0),
  (4, yX4_begin, cX4_begin, 1, (some .int), 0),
  (4, yX4_giveUp, cX4_giveUp, 2, (some .int), 0),
  (4, yX4_isReached, cX4_isReached, 4, (some .boolean), 1),
  (4, yX4_canOpen, cX4_canOpen, 5, (some .boolean), 1),
  (4, yX4_canLift, cX4_canLift, 3, (some .boolean), 1),
  (4, yX4_canTake, cX4_canTake, 4, (some .boolean), 1),
  (4, yX4_step, cX4_step, 3, none, 1),
  (4, yX4_turning, cX4_turning, 2, (some .double), 1),
  (4, yX4_open, cX4_open, 2, (some .int), 1),
  (4, yX4_close, cX4_close, 2, (some .int), 1),
  (4, yX4_lift, cX4_lift, 2, (some .int), 1),
  (4, yX4_handMany, cX4_handMany, 3, (some .int), 0),
  (4, yX4_take, cX4_take, 2, (some .int), 1),
  (4, yX4_seal, cX4_seal, 2, (some .int), 1),
  (4, yX4_type, cX4_type, 2, (some .int), 1),
  (4, yX4_clearText, cX4_clearText, 2, (some .int), 0)]
def MT_3 : List (Nat × MethodName × ByteArray × Nat × Option FieldType × Nat) := [(4, yX4_undo, cX4_undo, 2, (some .int), 0),
  (4, yX4_keep, cX4_keep, 2, (some .int), 0),
  (4, yX4_restore, cX4_restore, 2, (some .int), 0),
  (4, yX4_isClosed, cX4_isClosed, 2, (some .boolean), 1),
  (4, yX4_isHand, cX4_isHand, 2, (some .boolean), 1),
  (4, yX4_liftedOf, cX4_liftedOf, 2, (some .int), 1),
  (4, yX4_mark, cX4_mark, 3, none, 2),
  (4, yX4_markReach, cX4_markReach, 5, none, 3),
  (4, yX4_markOpening, cX4_markOpening, 4, none, 1),
  (4, yX4_markLiftings, cX4_markLiftings, 5, none, 1),
  (4, yX4_markTaking, cX4_markTaking, 4, none, 1),
  (4, yX4_reckon, cX4_reckon, 4, none, 1),
  (4, yX4_areAll, cX4_areAll, 4, (some .boolean), 1),
  (4, yX4_gather, cX4_gather, 6, (some .boolean), 1),
  (4, yX4_takenMany, cX4_takenMany, 5, (some .int), 2),
  (4, yX4_takenSet, cX4_takenSet, 5, (some .int), 2),
  (4, yX4_takenSeals, cX4_takenSeals, 3, (some .int), 0),
  (4, yX4_needs, cX4_needs, 3, (some .int), 2),
  (4, yX4_hint, cX4_hint, 3, (some .int), 1),
  (4, yX4_thingsIn, cX4_thingsIn, 4, (some .int), 1),
  (4, yX4_outersOf, cX4_outersOf, 4, (some .int), 1),
  (4, yX4_drawer, cX4_drawer, 3, (some .int), 2),
  (4, yX4_thing, cX4_thing, 5, (some .int), 2),
  (4, yX4_minutes, cX4_minutes, 1, (some .double), 0),
  (4, yX4_minutesBits, cX4_minutesBits, 1, (some .int), 0),
  (4, yX4_handSet, cX4_handSet, 3, (some .int), 0),
  (4, yX4_stuckSet, cX4_stuckSet, 3, (some .int), 0),
  (4, yX4_openableSet, cX4_openableSet, 3, (some .int), 0),
  (4, yX4_count, cX4_count, 2, (some .int), 1),
  (5, yJxf58ca_isNaN_12338, cJxf58ca_isNaN_12338, 1, (some .boolean), 1),
  (5, yJxf58ca_floatToIntBits_5c35a, cJxf58ca_floatToIntBits_5c35a, 1, (some .int), 1),
  (6, yJ6_bitCount_0f7a4, cJ6_bitCount_0f7a4, 1, (some .int), 1),
  (7, yJ9_max_7cf53, cJ9_max_7cf53, 2, (some .int), 2),
  (9, yL_law, cL_law, 8, (some .boolean), 1)]
def MT : List (Nat × MethodName × ByteArray × Nat × Option FieldType × Nat) := MT_0 ++ (MT_1 ++ (MT_2 ++ (MT_3)))
/-- the number of methods, the law the last one -/
abbrev NM : Nat := 154
abbrev yLAW : Nat := 153
def mrow (y : Nat) : Nat × MethodName × ByteArray × Nat × Option FieldType × Nat := MT.getD y (0, yL_law, cL_law, 0, none, 0)
def mown (y : Nat) : Nat := (mrow y).1
def mnm (y : Nat) : MethodName := (mrow y).2.1
def mcd (y : Nat) : ByteArray := (mrow y).2.2.1
def mml (y : Nat) : Nat := (mrow y).2.2.2.1
def mrt (y : Nat) : Option FieldType := (mrow y).2.2.2.2.1
def mna (y : Nat) : Nat := (mrow y).2.2.2.2.2
/-! the numbers of the methods -/
abbrev nX0_init : Nat := 0
abbrev nX0_append : Nat := 1
abbrev nX0_readAll : Nat := 2
abbrev nX0_fitsBehind : Nat := 3
abbrev nX0_readDrawer : Nat := 4
abbrev nX0_readOuter : Nat := 5
abbrev nX0_readHold : Nat := 6
abbrev nX0_readBottoms : Nat := 7
abbrev nX0_readSign : Nat := 8
abbrev nX0_readNumber : Nat := 9
abbrev nX0_readDigit : Nat := 10
abbrev nX1_init : Nat := 11
abbrev nX1_make : Nat := 12
abbrev nX1_countSteps : Nat := 13
abbrev nX1_countLiftings : Nat := 14
abbrev nX1_firstStep : Nat := 15
abbrev nX1_isLiftingIn : Nat := 16
abbrev nX1_addNeedsOfAll : Nat := 17
abbrev nX1_addWayInto : Nat := 18
abbrev nX1_addNeedsOfOpening : Nat := 19
abbrev nX1_addNeedsOfTaking : Nat := 20
abbrev nX1_addOpening : Nat := 21
abbrev nX1_addTaking : Nat := 22
abbrev nX2_init : Nat := 23
abbrev nX2_copyFrom : Nat := 24
abbrev nX2_addDrawer : Nat := 25
abbrev nX2_changeBottoms : Nat := 26
abbrev nX2_putBack : Nat := 27
abbrev nX2_isThere : Nat := 28
abbrev nX2_isOpen : Nat := 29
abbrev nX2_isInHand : Nat := 30
abbrev nX2_isReached : Nat := 31
abbrev nX2_canOpen : Nat := 32
abbrev nX2_isLetByHold : Nat := 33
abbrev nX2_hasBottomLeft : Nat := 34
abbrev nX2_canLift : Nat := 35
abbrev nX2_canTake : Nat := 36
abbrev nX2_canSeal : Nat := 37
abbrev nX2_setOpen : Nat := 38
abbrev nX2_addStep : Nat := 39
abbrev nX2_makeAllSteps : Nat := 40
abbrev nX2_makeSteps : Nat := 41
abbrev nX2_hasAllHolders : Nat := 42
abbrev nX2_openableNow : Nat := 43
abbrev nX2_countWholeSeals : Nat := 44
abbrev nX2_countThingsInDrawers : Nat := 45
abbrev nX2_countThingsIn : Nat := 46
abbrev nX2_countOuters : Nat := 47
abbrev nX3_init : Nat := 48
abbrev nX3_build : Nat := 49
abbrev nX3_buildAll : Nat := 50
abbrev nX3_setBottoms : Nat := 51
abbrev nX3_lay : Nat := 52
abbrev nX3_begin : Nat := 53
abbrev nX3_giveUp : Nat := 54
abbrev nX3_open : Nat := 55
abbrev nX3_close : Nat := 56
abbrev nX3_lift : Nat := 57
abbrev nX3_take : Nat := 58
abbrev nX3_seal : Nat := 59
abbrev nX3_type : Nat := 60
abbrev nX3_clearText : Nat := 61
abbrev nX3_undo : Nat := 62
abbrev nX3_keep : Nat := 63
abbrev nX3_restore : Nat := 64
abbrev nX3_drawer : Nat := 65
abbrev nX3_thing : Nat := 66
abbrev nX3_needs : Nat := 67
abbrev nX3_hint : Nat := 68
abbrev nX3_minutes : Nat := 69
abbrev nX3_minutesBits : Nat := 70
abbrev nX3_count : Nat := 71
abbrev nX3_isHold : Nat := 72
abbrev nX3_isThing : Nat := 73
abbrev nX3_oneIf : Nat := 74
abbrev nX3_bit : Nat := 75
abbrev nX3_isIn : Nat := 76
abbrev nX3_bitsOf : Nat := 77
abbrev nX3_recordState : Nat := 78
abbrev nX3_dropOldest : Nat := 79
abbrev nX3_copyState : Nat := 80
abbrev nX3_canComeTo : Nat := 81
abbrev nX3_neverOpened : Nat := 82
abbrev nX4_init : Nat := 83
abbrev nX4_in : Nat := 84
abbrev nX4_t : Nat := 85
abbrev nX4_d : Nat := 86
abbrev nX4_record : Nat := 87
abbrev nX4_isDrawer : Nat := 88
abbrev nX4_isGame : Nat := 89
abbrev nX4_sumOf : Nat := 90
abbrev nX4_goBuild : Nat := 91
abbrev nX4_build : Nat := 92
abbrev nX4_isSign : Nat := 93
abbrev nX4_readsNumber : Nat := 94
abbrev nX4_readsHold : Nat := 95
abbrev nX4_readsDrawer : Nat := 96
abbrev nX4_faultOf : Nat := 97
abbrev nX4_buildAll : Nat := 98
abbrev nX4_setBottoms : Nat := 99
abbrev nX4_laidMany : Nat := 100
abbrev nX4_lay : Nat := 101
abbrev nX4_lacksHolder : Nat := 102
abbrev nX4_asLaid : Nat := 103
abbrev nX4_begin : Nat := 104
abbrev nX4_giveUp : Nat := 105
abbrev nX4_isReached : Nat := 106
abbrev nX4_canOpen : Nat := 107
abbrev nX4_canLift : Nat := 108
abbrev nX4_canTake : Nat := 109
abbrev nX4_step : Nat := 110
abbrev nX4_turning : Nat := 111
abbrev nX4_open : Nat := 112
abbrev nX4_close : Nat := 113
abbrev nX4_lift : Nat := 114
abbrev nX4_handMany : Nat := 115
abbrev nX4_take : Nat := 116
abbrev nX4_seal : Nat := 117
abbrev nX4_type : Nat := 118
abbrev nX4_clearText : Nat := 119
abbrev nX4_undo : Nat := 120
abbrev nX4_keep : Nat := 121
abbrev nX4_restore : Nat := 122
abbrev nX4_isClosed : Nat := 123
abbrev nX4_isHand : Nat := 124
abbrev nX4_liftedOf : Nat := 125
abbrev nX4_mark : Nat := 126
abbrev nX4_markReach : Nat := 127
abbrev nX4_markOpening : Nat := 128
abbrev nX4_markLiftings : Nat := 129
abbrev nX4_markTaking : Nat := 130
abbrev nX4_reckon : Nat := 131
abbrev nX4_areAll : Nat := 132
abbrev nX4_gather : Nat := 133
abbrev nX4_takenMany : Nat := 134
abbrev nX4_takenSet : Nat := 135
abbrev nX4_takenSeals : Nat := 136
abbrev nX4_needs : Nat := 137
abbrev nX4_hint : Nat := 138
abbrev nX4_thingsIn : Nat := 139
abbrev nX4_outersOf : Nat := 140
abbrev nX4_drawer : Nat := 141
abbrev nX4_thing : Nat := 142
abbrev nX4_minutes : Nat := 143
abbrev nX4_minutesBits : Nat := 144
abbrev nX4_handSet : Nat := 145
abbrev nX4_stuckSet : Nat := 146
abbrev nX4_openableSet : Nat := 147
abbrev nX4_count : Nat := 148
abbrev nJxf58ca_isNaN_12338 : Nat := 149
abbrev nJxf58ca_floatToIntBits_5c35a : Nat := 150
abbrev nJ6_bitCount_0f7a4 : Nat := 151
abbrev nJ9_max_7cf53 : Nat := 152
abbrev nL_law : Nat := 153
/-! calls: by class, a place of the constant pool, the kind of the call, the method -/
def LK_0 : List (Nat × Nat × Nat) := [(3, 5, 0), (38, 0, 4), (42, 0, 8), (46, 0, 5), (49, 0, 6), (52, 0, 7), (55, 0, 9), (59, 0, 10)]
def LK_1 : List (Nat × Nat × Nat) := [(3, 5, 0), (22, 0, 18), (26, 0, 13), (30, 0, 17), (34, 1, 151), (40, 0, 14), (48, 8, 152), (54, 0, 43), (58, 3, 76), (62, 0, 36), (66, 0, 16), (70, 0, 35), (73, 0, 19), (76, 0, 22), (79, 0, 20), (82, 0, 28), (85, 0, 21), (103, 0, 29), (106, 3, 75), (109, 0, 30)]
def LK_2 : List (Nat × Nat × Nat) := [(3, 5, 0), (59, 6, 0), (65, 0, 28), (69, 0, 29), (72, 0, 31), (75, 0, 33), (78, 0, 30), (81, 0, 34), (84, 3, 76), (88, 3, 75), (92, 0, 41), (96, 0, 32), (99, 0, 38), (103, 0, 35), (106, 0, 36)]
def LK_3 : List (Nat × Nat × Nat) := [(3, 5, 0), (11, 2, 23), (28, 4, 11), (35, 4, 0), (48, 0, 28), (52, 1, 72), (62, 0, 78), (65, 0, 25), (69, 0, 2), (73, 0, 3), (93, 0, 26), (97, 1, 73), (106, 0, 45), (109, 0, 42), (113, 0, 27), (119, 0, 29), (122, 0, 32), (125, 0, 38), (132, 0, 39), (138, 1, 151), (144, 0, 31), (147, 1, 75), (150, 0, 34), (153, 0, 35), (159, 0, 30), (162, 0, 36), (171, 1, 76), (174, 0, 37), (177, 0, 1), (184, 1, 80), (191, 1, 74), (195, 0, 46), (198, 0, 47), (201, 0, 81), (204, 0, 12), (208, 0, 13), (218, 0, 14), (221, 0, 44), (224, 0, 15), (234, 0, 69), (238, 1, 77), (242, 0, 82), (245, 0, 43), (249, 0, 79), (252, 0, 24), (256, 0, 40)]
def LK_4 : List (Nat × Nat × Nat) := [(1, 5, 0), (43, 1, 85), (51, 1, 84), (55, 1, 86), (58, 0, 88), (62, 0, 89), (66, 0, 87), (69, 0, 91), (79, 0, 93), (83, 0, 94), (90, 0, 95), (93, 0, 96), (96, 0, 97), (99, 0, 100), (102, 0, 102), (105, 0, 103), (108, 0, 106), (113, 0, 107), (116, 0, 111), (120, 0, 110), (124, 0, 90), (127, 0, 108), (132, 0, 109), (137, 0, 115), (149, 0, 123), (152, 0, 126), (156, 0, 127), (160, 0, 124), (163, 0, 125), (166, 0, 128), (170, 0, 129), (173, 0, 130), (176, 0, 132), (179, 0, 131), (183, 0, 133), (186, 0, 134), (190, 0, 135), (193, 0, 136), (196, 0, 139), (199, 0, 140), (204, 1, 150), (210, 0, 145), (213, 0, 146), (216, 0, 147)]
def LK_5 : List (Nat × Nat × Nat) := [(59, 1, 149), (74, 7, 0)]
def LK_6 : List (Nat × Nat × Nat) := []
def LK_7 : List (Nat × Nat × Nat) := []
def LK_8 : List (Nat × Nat × Nat) := []
def LK_9 : List (Nat × Nat × Nat) := [(9, 2, 48), (12, 2, 83), (13, 0, 49), (17, 0, 92), (18, 0, 50), (22, 0, 98), (23, 0, 51), (27, 0, 99), (28, 0, 52), (32, 0, 101), (33, 0, 53), (36, 0, 104), (37, 0, 54), (40, 0, 105), (41, 0, 55), (45, 0, 112), (46, 0, 56), (49, 0, 113), (50, 0, 57), (53, 0, 114), (54, 0, 58), (57, 0, 116), (58, 0, 59), (61, 0, 117), (62, 0, 60), (66, 0, 118), (67, 0, 61), (70, 0, 119), (71, 0, 62), (74, 0, 120), (75, 0, 63), (78, 0, 121), (79, 0, 64), (82, 0, 122), (83, 0, 65), (86, 0, 141), (87, 0, 66), (90, 0, 142), (91, 0, 67), (94, 0, 137), (95, 0, 68), (98, 0, 138), (99, 0, 69), (103, 0, 143), (104, 0, 70), (107, 0, 144), (108, 0, 71), (111, 0, 148)]
def LK (own : Nat) : List (Nat × Nat × Nat) := match own with
  | 0 => LK_0
  | 1 => LK_1
  | 2 => LK_2
  | 3 => LK_3
  | 4 => LK_4
  | 5 => LK_5
  | 6 => LK_6
  | 7 => LK_7
  | 8 => LK_8
  | _ => LK_9
def lnk (own ix : Nat) : Option (Nat × Nat) := ((LK own).find? (fun e => e.1 == ix)).map (·.2)
/-! fields: by class, a place of the constant pool, the class of the field, its place there -/
def FK_0 : List (Nat × Nat × Nat) := [(9, 0, 0), (28, 0, 1), (32, 0, 2), (35, 0, 3), (15, 0, 4), (19, 0, 5), (22, 0, 6), (25, 0, 7)]
def FK_1 : List (Nat × Nat × Nat) := [(88, 2, 7), (91, 2, 8), (94, 2, 9), (43, 2, 12), (97, 2, 13), (100, 2, 14), (15, 1, 0), (19, 1, 1), (9, 1, 2)]
def FK_2 : List (Nat × Nat × Nat) := [(36, 2, 0), (40, 2, 1), (44, 2, 2), (47, 2, 3), (50, 2, 4), (53, 2, 5), (56, 2, 6), (9, 2, 7), (15, 2, 8), (18, 2, 9), (21, 2, 10), (24, 2, 11), (27, 2, 12), (30, 2, 13), (33, 2, 14)]
def FK_3 : List (Nat × Nat × Nat) := [(56, 2, 0), (59, 2, 1), (116, 2, 2), (227, 2, 3), (135, 2, 4), (168, 2, 5), (165, 2, 6), (188, 2, 7), (189, 2, 8), (190, 2, 9), (129, 2, 10), (92, 2, 11), (156, 2, 12), (100, 2, 13), (103, 2, 14), (212, 1, 0), (215, 1, 1), (181, 0, 1), (76, 0, 3), (79, 0, 4), (83, 0, 5), (86, 0, 6), (89, 0, 7), (12, 3, 0), (16, 3, 1), (19, 3, 2), (22, 3, 3), (29, 3, 4), (36, 3, 5), (40, 3, 6), (44, 3, 7)]
def FK_4 : List (Nat × Nat × Nat) := [(7, 4, 0), (13, 4, 1), (16, 4, 2), (19, 4, 3), (23, 4, 4), (27, 4, 5), (30, 4, 6), (33, 4, 7), (36, 4, 8), (39, 4, 9), (73, 4, 10), (47, 4, 11), (142, 4, 12), (146, 4, 13), (76, 4, 14), (87, 4, 15)]
def FK_5 : List (Nat × Nat × Nat) := []
def FK_6 : List (Nat × Nat × Nat) := []
def FK_7 : List (Nat × Nat × Nat) := []
def FK_8 : List (Nat × Nat × Nat) := []
def FK_9 : List (Nat × Nat × Nat) := []
def FK (own : Nat) : List (Nat × Nat × Nat) := match own with
  | 0 => FK_0
  | 1 => FK_1
  | 2 => FK_2
  | 3 => FK_3
  | 4 => FK_4
  | 5 => FK_5
  | 6 => FK_6
  | 7 => FK_7
  | 8 => FK_8
  | _ => FK_9
def fld (own ix : Nat) : Option (Nat × Nat) := ((FK own).find? (fun e => e.1 == ix)).map (·.2)
def CK_0 : List (Nat × Value) := []
def CK_1 : List (Nat × Value) := []
def CK_2 : List (Nat × Value) := []
def CK_3 : List (Nat × Value) := [(230, .double 4616189618054758400), (232, .double 13830554455654793216), (248, .float 1258291200)]
def CK_4 : List (Nat × Value) := [(111, .double 4616189618054758400), (130, .double 4612811918334230528), (135, .double 4598175219545276416), (140, .double 4613937818241073152), (202, .double 13830554455654793216)]
def CK_5 : List (Nat × Value) := [(77, .int 2143289344)]
def CK_6 : List (Nat × Value) := [(265, .int 1431655765), (266, .int 858993459), (267, .int 252645135)]
def CK_7 : List (Nat × Value) := []
def CK_8 : List (Nat × Value) := []
def CK_9 : List (Nat × Value) := []
def CK (own : Nat) : List (Nat × Value) := match own with
  | 0 => CK_0
  | 1 => CK_1
  | 2 => CK_2
  | 3 => CK_3
  | 4 => CK_4
  | 5 => CK_5
  | 6 => CK_6
  | 7 => CK_7
  | 8 => CK_8
  | _ => CK_9
def cst (own ix : Nat) : Option Value := ((CK own).find? (fun e => e.1 == ix)).map (·.2)
def NK_0 : List (Nat × Nat) := []
def NK_1 : List (Nat × Nat) := []
def NK_2 : List (Nat × Nat) := []
def NK_3 : List (Nat × Nat) := [(9, 2), (26, 1), (33, 0)]
def NK_4 : List (Nat × Nat) := []
def NK_5 : List (Nat × Nat) := []
def NK_6 : List (Nat × Nat) := []
def NK_7 : List (Nat × Nat) := []
def NK_8 : List (Nat × Nat) := []
def NK_9 : List (Nat × Nat) := [(7, 3), (10, 4)]
def NK (own : Nat) : List (Nat × Nat) := match own with
  | 0 => NK_0
  | 1 => NK_1
  | 2 => NK_2
  | 3 => NK_3
  | 4 => NK_4
  | 5 => NK_5
  | 6 => NK_6
  | 7 => NK_7
  | 8 => NK_8
  | _ => NK_9
def nwc (own ix : Nat) : Option Nat := ((NK own).find? (fun e => e.1 == ix)).map (·.2)
/-! which words the tables hold, by their places -/
theorem mem_places {ws : List Cond} (ps : List Nat) (h : ps.map (fun i => lw_tbl[i]?) = ws.map some) : ∀ w ∈ ws, w ∈ lw_tbl := by
  intro w hw
  have h1 : some w ∈ ps.map (fun i => lw_tbl[i]?) := by rw [h]; exact List.mem_map.mpr ⟨w, hw, rfl⟩
  obtain ⟨i, -, hi⟩ := List.mem_map.mp h1
  exact List.mem_of_getElem? hi
def wCode (e : Nat × MethodName × ByteArray × Nat × Option FieldType × Nat) : Cond := .code e.2.1 e.2.2.1 e.2.2.2.1 e.2.2.2.2.1
set_option maxRecDepth 100000 in
theorem pC_0 : ∀ w ∈ MT_0.map wCode, w ∈ lw_tbl := mem_places [174, 431, 273, 305, 277, 281, 297, 301, 285, 289, 293, 156, 490, 505, 510, 549, 531, 517, 494, 522, 535, 499, 526, 81, 258, 265, 313, 337, 240, 349, 366, 358, 353, 362, 397, 401, 411, 422, 370, 377] (by decide +kernel)
set_option maxRecDepth 100000 in
theorem pC_1 : ∀ w ∈ MT_1.map wCode, w ∈ lw_tbl := mem_places [478, 482, 333, 553, 541, 324, 458, 462, 73, 236, 269, 309, 317, 329, 341, 345, 387, 393, 406, 415, 427, 435, 439, 443, 447, 451, 466, 470, 545, 559, 565, 574, 243, 320, 454, 373, 418, 569, 247, 251] (by decide +kernel)
set_option maxRecDepth 100000 in
theorem pC_2 : ∀ w ∈ MT_2.map wCode, w ∈ lw_tbl := mem_places [254, 474, 578, 584, 650, 588, 665, 658, 647, 654, 742, 662, 643, 681, 685, 689, 677, 673, 669, 693, 701, 697, 709, 713, 705, 717, 729, 725, 754, 763, 738, 733, 721, 746, 750, 768, 759, 772, 777, 781] (by decide +kernel)
set_option maxRecDepth 100000 in
theorem pC_3 : ∀ w ∈ (MT_3.take 33).map wCode, w ∈ lw_tbl := mem_places [785, 789, 793, 805, 821, 829, 817, 813, 809, 825, 833, 801, 837, 841, 845, 849, 853, 797, 857, 865, 869, 861, 873, 877, 882, 900, 904, 908, 896, 888, 885, 380, 513] (by decide +kernel)
set_option maxRecDepth 100000 in
theorem pI : ∀ w ∈ [0, 1, 2, 3, 4, 5, 6, 7, 8, 9].map (fun c => Cond.initialized (CN c)), w ∈ lw_tbl := mem_places [63, 62, 61, 60, 64, 68, 66, 67, 65, 59] (by decide +kernel)
/-- the words of a call: by its kind (0 of an object, 1 static, 2 a constructor, 3 static of a nest mate, 4 a nest mate's constructor, 5 Object's, 6 arraycopy, 7 floatToRawIntBits, 8 Math.max) -/
def wLink (own : Nat) (e : Nat × Nat × Nat) : List Cond := match e.2.1 with
  | 0 => [.methodLink (CN own) e.1 (mnm e.2.2), .instanceMethod (mnm e.2.2), .selects (mnm e.2.2).cls (mnm e.2.2) (mnm e.2.2)]
  | 1 => [.methodLink (CN own) e.1 (mnm e.2.2), .static (mnm e.2.2)]
  | 2 => [.methodLink (CN own) e.1 (mnm e.2.2), .instanceMethod (mnm e.2.2)]
  | 3 => [.methodLinkNest (CN own) e.1 (mnm e.2.2) RX3, .static (mnm e.2.2)]
  | 4 => [.methodLinkNest (CN own) e.1 (mnm e.2.2) RX3, .instanceMethod (mnm e.2.2)]
  | 5 => [.methodLink (CN own) e.1 objectInit, .instanceMethod objectInit]
  | 6 => [.methodLink (CN own) e.1 arraycopyName, .native arraycopyName, .static arraycopyName]
  | 7 => [.methodLink (CN own) e.1 ⟨"java/lang/Float", "floatToRawIntBits", "(F)I"⟩, .native ⟨"java/lang/Float", "floatToRawIntBits", "(F)I"⟩, .static ⟨"java/lang/Float", "floatToRawIntBits", "(F)I"⟩]
  | _ => [.methodLink (CN own) e.1 (mnm e.2.2), .static (mnm e.2.2)]
set_option maxRecDepth 100000 in
theorem pL_0 : ∀ w ∈ LK_0.flatMap (wLink 0), w ∈ lw_tbl := mem_places [175, 75, 274, 276, 2, 282, 284, 4, 278, 280, 3, 294, 296, 7, 298, 300, 8, 286, 288, 5, 290, 292, 6] (by decide +kernel)
set_option maxRecDepth 100000 in
theorem pL_1 : ∀ w ∈ LK_1.flatMap (wLink 1), w ∈ lw_tbl := mem_places [157, 75, 491, 493, 12, 502, 503, 504, 514, 516, 14, 506, 379, 507, 508, 509, 511, 512, 550, 551, 552, 518, 417, 554, 409, 410, 528, 530, 17, 555, 399, 400, 519, 521, 15, 523, 525, 16, 532, 534, 18, 495, 238, 239, 496, 498, 13, 500, 347, 348, 501, 372, 527, 364, 365] (by decide +kernel)
set_option maxRecDepth 100000 in
theorem pL_2 : ∀ w ∈ LK_2.flatMap (wLink 2), w ∈ lw_tbl := mem_places [82, 75, 259, 261, 260, 325, 238, 239, 354, 347, 348, 355, 356, 357, 359, 361, 9, 363, 364, 365, 402, 395, 396, 423, 417, 371, 372, 479, 481, 11, 483, 351, 352, 484, 368, 369, 485, 399, 400, 486, 409, 410] (by decide +kernel)
set_option maxRecDepth 100000 in
theorem pL_3 : ∀ w ∈ LK_3.flatMap (wLink 3), w ∈ lw_tbl := mem_places [74, 75, 79, 80, 154, 155, 172, 173, 237, 238, 239, 241, 242, 244, 246, 0, 262, 263, 264, 270, 271, 272, 302, 303, 304, 310, 311, 312, 318, 319, 321, 322, 323, 330, 331, 332, 334, 335, 336, 346, 347, 348, 350, 351, 352, 367, 368, 369, 374, 375, 376, 378, 379, 388, 356, 357, 389, 372, 394, 395, 396, 398, 399, 400, 407, 364, 365, 408, 409, 410, 416, 417, 419, 420, 421, 428, 429, 430, 252, 253, 452, 453, 455, 456, 457, 459, 460, 461, 471, 473, 10, 487, 488, 489, 536, 503, 504, 537, 508, 509, 538, 539, 540, 546, 547, 548, 566, 557, 558, 567, 568, 575, 577, 19, 579, 551, 552, 248, 250, 1, 255, 256, 257, 475, 476, 477] (by decide +kernel)
set_option maxRecDepth 100000 in
theorem pL_4 : ∀ w ∈ LK_4.flatMap (wLink 4), w ∈ lw_tbl := mem_places [585, 75, 586, 587, 648, 649, 663, 664, 644, 646, 20, 651, 653, 21, 655, 657, 22, 659, 661, 23, 678, 680, 26, 682, 684, 27, 686, 688, 28, 674, 676, 25, 670, 672, 24, 698, 700, 29, 706, 708, 30, 710, 712, 31, 726, 728, 33, 722, 724, 32, 730, 732, 34, 735, 737, 35, 739, 741, 36, 751, 753, 37, 760, 762, 38, 765, 767, 39, 802, 804, 41, 814, 816, 44, 810, 812, 43, 818, 820, 45, 826, 828, 47, 806, 808, 42, 822, 824, 46, 830, 832, 48, 834, 836, 49, 798, 800, 40, 838, 840, 50, 842, 844, 51, 846, 848, 52, 850, 852, 53, 862, 864, 54, 866, 868, 55, 883, 884, 897, 899, 56, 901, 903, 57, 905, 907, 58] (by decide +kernel)
set_option maxRecDepth 100000 in
theorem pL_5 : ∀ w ∈ LK_5.flatMap (wLink 5), w ∈ lw_tbl := mem_places [886, 887, 889, 891, 890] (by decide +kernel)
set_option maxRecDepth 100000 in
theorem pL_9 : ∀ w ∈ LK_9.flatMap (wLink 9), w ∈ lw_tbl := mem_places [71, 72, 582, 583, 233, 234, 235, 640, 641, 642, 266, 267, 268, 666, 667, 668, 306, 307, 308, 690, 691, 692, 314, 315, 316, 694, 695, 696, 326, 327, 328, 702, 703, 704, 338, 339, 340, 714, 715, 716, 342, 343, 344, 718, 719, 720, 384, 385, 386, 743, 744, 745, 390, 391, 392, 747, 748, 749, 403, 404, 405, 756, 757, 758, 412, 413, 414, 769, 770, 771, 424, 425, 426, 774, 775, 776, 432, 433, 434, 778, 779, 780, 436, 437, 438, 782, 783, 784, 440, 441, 442, 786, 787, 788, 444, 445, 446, 790, 791, 792, 448, 449, 450, 858, 859, 860, 463, 464, 465, 870, 871, 872, 467, 468, 469, 794, 795, 796, 542, 543, 544, 854, 855, 856, 556, 557, 558, 874, 875, 876, 562, 563, 564, 879, 880, 881, 571, 572, 573, 893, 894, 895] (by decide +kernel)
def wFld (own : Nat) (e : Nat × Nat × Nat) : Cond := match vwCl[e.2.1]? with
  | some r => .fieldLink (CN own) e.1 r.1 (r.2.1 e.2.2).2.1 (r.2.1 e.2.2).2.2.1
  | none => .initialized ""
set_option maxRecDepth 100000 in
theorem pF_0 : ∀ w ∈ FK_0.map (wFld 0), w ∈ lw_tbl := mem_places [176, 177, 179, 180, 182, 184, 186, 188] (by decide +kernel)
set_option maxRecDepth 100000 in
theorem pF_1 : ∀ w ∈ FK_1.map (wFld 1), w ∈ lw_tbl := mem_places [98, 101, 104, 111, 115, 118, 158, 160, 162] (by decide +kernel)
set_option maxRecDepth 100000 in
theorem pF_2 : ∀ w ∈ FK_2.map (wFld 2), w ∈ lw_tbl := mem_places [83, 85, 87, 89, 91, 93, 95, 97, 100, 103, 106, 108, 110, 113, 116] (by decide +kernel)
set_option maxRecDepth 100000 in
theorem pF_3 : ∀ w ∈ FK_3.map (wFld 3), w ∈ lw_tbl := mem_places [84, 86, 88, 90, 92, 94, 96, 99, 102, 105, 107, 109, 112, 114, 117, 159, 161, 178, 181, 183, 185, 187, 189, 208, 209, 210, 211, 212, 213, 214, 215] (by decide +kernel)
set_option maxRecDepth 100000 in
theorem pF_4 : ∀ w ∈ FK_4.map (wFld 4), w ∈ lw_tbl := mem_places [589, 590, 591, 592, 593, 594, 595, 596, 597, 598, 599, 600, 601, 602, 603, 604] (by decide +kernel)
def wCst (own : Nat) (e : Nat × Value) : Cond := match e.2 with
  | .int v => .constant (CN own) e.1 v
  | .double v => .constantDouble (CN own) e.1 v
  | .float v => .constantFloat (CN own) e.1 v
  | _ => .initialized ""
set_option maxRecDepth 100000 in
theorem pK_3 : ∀ w ∈ CK_3.map (wCst 3), w ∈ lw_tbl := mem_places [560, 561, 570] (by decide +kernel)
set_option maxRecDepth 100000 in
theorem pK_4 : ∀ w ∈ CK_4.map (wCst 4), w ∈ lw_tbl := mem_places [734, 755, 764, 773, 878] (by decide +kernel)
set_option maxRecDepth 100000 in
theorem pK_5 : ∀ w ∈ CK_5.map (wCst 5), w ∈ lw_tbl := mem_places [892] (by decide +kernel)
set_option maxRecDepth 100000 in
theorem pK_6 : ∀ w ∈ CK_6.map (wCst 6), w ∈ lw_tbl := mem_places [381, 382, 383] (by decide +kernel)
def wNew (own : Nat) (e : Nat × Nat) : List Cond := match vwCl[e.2]? with
  | some r => [.classLink (CN own) e.1 r.1, .instantiable r.1 r.2.2]
  | none => []
set_option maxRecDepth 100000 in
theorem pN_3 : ∀ w ∈ NK_3.flatMap (wNew 3), w ∈ lw_tbl := mem_places [77, 78, 152, 153, 170, 171] (by decide +kernel)
set_option maxRecDepth 100000 in
theorem pN_9 : ∀ w ∈ NK_9.flatMap (wNew 9), w ∈ lw_tbl := mem_places [69, 70, 580, 581] (by decide +kernel)
set_option maxRecDepth 100000 in
theorem inF_0 : ∀ w ∈ u_ws RX0 TX0 8, w ∈ lw_tbl := mem_places [190, 192, 194, 196, 198, 200, 202, 204] (by decide +kernel)
set_option maxRecDepth 100000 in
theorem inF_1 : ∀ w ∈ u_ws RX1 TX1 3, w ∈ lw_tbl := mem_places [163, 165, 167] (by decide +kernel)
set_option maxRecDepth 100000 in
theorem inF_2 : ∀ w ∈ u_ws RX2 TX2 15, w ∈ lw_tbl := mem_places [119, 121, 123, 125, 127, 129, 131, 133, 135, 137, 139, 141, 143, 145, 147] (by decide +kernel)
set_option maxRecDepth 100000 in
theorem inF_3 : ∀ w ∈ u_ws RX3 TX3 8, w ∈ lw_tbl := mem_places [216, 218, 220, 222, 224, 226, 228, 230] (by decide +kernel)
set_option maxRecDepth 100000 in
theorem inF_4 : ∀ w ∈ u_ws RX4 TX4 16, w ∈ lw_tbl := mem_places [605, 607, 609, 611, 613, 615, 617, 619, 621, 623, 625, 627, 629, 631, 633, 635] (by decide +kernel)
set_option maxRecDepth 100000 in
theorem pX : ∀ w ∈ [Cond.arrayClass .int, .arrayClass .char, .arrayClass .boolean, .arrayClass .double, .arrayOver (.object RX2), .code objectInit ⟨#[0xb1]⟩ 1 none], w ∈ lw_tbl := mem_places [150, 207, 639, 638, 151, 76] (by decide +kernel)

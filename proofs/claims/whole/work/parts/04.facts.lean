/-! what the tables say, in the form in which it is used -/
def TBQ_0 : List (List (Option (Instr × Nat)) × ByteArray) := [(tb_0, cX0_init), (tb_1, cX0_append), (tb_2, cX0_readAll), (tb_3, cX0_fitsBehind), (tb_4, cX0_readDrawer), (tb_5, cX0_readOuter), (tb_6, cX0_readHold), (tb_7, cX0_readBottoms), (tb_8, cX0_readSign), (tb_9, cX0_readNumber), (tb_10, cX0_readDigit), (tb_11, cX1_init), (tb_12, cX1_make), (tb_13, cX1_countSteps), (tb_14, cX1_countLiftings), (tb_15, cX1_firstStep), (tb_16, cX1_isLiftingIn), (tb_17, cX1_addNeedsOfAll), (tb_18, cX1_addWayInto), (tb_19, cX1_addNeedsOfOpening), (tb_20, cX1_addNeedsOfTaking), (tb_21, cX1_addOpening), (tb_22, cX1_addTaking), (tb_23, cX2_init), (tb_24, cX2_copyFrom), (tb_25, cX2_addDrawer), (tb_26, cX2_changeBottoms), (tb_27, cX2_putBack), (tb_28, cX2_isThere), (tb_29, cX2_isOpen), (tb_30, cX2_isInHand), (tb_31, cX2_isReached), (tb_32, cX2_canOpen), (tb_33, cX2_isLetByHold), (tb_34, cX2_hasBottomLeft), (tb_35, cX2_canLift), (tb_36, cX2_canTake), (tb_37, cX2_canSeal), (tb_38, cX2_setOpen), (tb_39, cX2_addStep)]
theorem tq_0 : ∀ q ∈ TBQ_0, tbOk q.1 q.2 = true := List.forall_mem_cons.mpr ⟨tk_0, List.forall_mem_cons.mpr ⟨tk_1, List.forall_mem_cons.mpr ⟨tk_2, List.forall_mem_cons.mpr ⟨tk_3, List.forall_mem_cons.mpr ⟨tk_4, List.forall_mem_cons.mpr ⟨tk_5, List.forall_mem_cons.mpr ⟨tk_6, List.forall_mem_cons.mpr ⟨tk_7, List.forall_mem_cons.mpr ⟨tk_8, List.forall_mem_cons.mpr ⟨tk_9, List.forall_mem_cons.mpr ⟨tk_10, List.forall_mem_cons.mpr ⟨tk_11, List.forall_mem_cons.mpr ⟨tk_12, List.forall_mem_cons.mpr ⟨tk_13, List.forall_mem_cons.mpr ⟨tk_14, List.forall_mem_cons.mpr ⟨tk_15, List.forall_mem_cons.mpr ⟨tk_16, List.forall_mem_cons.mpr ⟨tk_17, List.forall_mem_cons.mpr ⟨tk_18, List.forall_mem_cons.mpr ⟨tk_19, List.forall_mem_cons.mpr ⟨tk_20, List.forall_mem_cons.mpr ⟨tk_21, List.forall_mem_cons.mpr ⟨tk_22, List.forall_mem_cons.mpr ⟨tk_23, List.forall_mem_cons.mpr ⟨tk_24, List.forall_mem_cons.mpr ⟨tk_25, List.forall_mem_cons.mpr ⟨tk_26, List.forall_mem_cons.mpr ⟨tk_27, List.forall_mem_cons.mpr ⟨tk_28, List.forall_mem_cons.mpr ⟨tk_29, List.forall_mem_cons.mpr ⟨tk_30, List.forall_mem_cons.mpr ⟨tk_31, List.forall_mem_cons.mpr ⟨tk_32, List.forall_mem_cons.mpr ⟨tk_33, List.forall_mem_cons.mpr ⟨tk_34, List.forall_mem_cons.mpr ⟨tk_35, List.forall_mem_cons.mpr ⟨tk_36, List.forall_mem_cons.mpr ⟨tk_37, List.forall_mem_cons.mpr ⟨tk_38, List.forall_mem_cons.mpr ⟨tk_39, fun _ h => absurd h List.not_mem_nil⟩⟩⟩⟩⟩⟩⟩⟩⟩⟩⟩⟩⟩⟩⟩⟩⟩⟩⟩⟩⟩⟩⟩⟩⟩⟩⟩⟩⟩⟩⟩⟩⟩⟩⟩⟩⟩⟩⟩⟩
def TBQ_1 : List (List (Option (Instr × Nat)) × ByteArray) := [(tb_40, cX2_makeAllSteps), (tb_41, cX2_makeSteps), (tb_42, cX2_hasAllHolders), (tb_43, cX2_openableNow), (tb_44, cX2_countWholeSeals), (tb_45, cX2_countThingsInDrawers), (tb_46, cX2_countThingsIn), (tb_47, cX2_countOuters), (tb_48, cX3_init), (tb_49, cX3_build), (tb_50, cX3_buildAll), (tb_51, cX3_setBottoms), (tb_52, cX3_lay), (tb_53, cX3_begin), (tb_54, cX3_giveUp), (tb_55, cX3_open), (tb_56, cX3_close), (tb_57, cX3_lift), (tb_58, cX3_take), (tb_59, cX3_seal), (tb_60, cX3_type), (tb_61, cX3_clearText), (tb_62, cX3_undo), (tb_63, cX3_keep), (tb_64, cX3_restore), (tb_65, cX3_drawer), (tb_66, cX3_thing), (tb_67, cX3_needs), (tb_68, cX3_hint), (tb_69, cX3_minutes), (tb_70, cX3_minutesBits), (tb_71, cX3_count), (tb_72, cX3_isHold), (tb_73, cX3_isThing), (tb_74, cX3_oneIf), (tb_75, cX3_bit), (tb_76, cX3_isIn), (tb_77, cX3_bitsOf), (tb_78, cX3_recordState), (tb_79, cX3_dropOldest)]
theorem tq_1 : ∀ q ∈ TBQ_1, tbOk q.1 q.2 = true := List.forall_mem_cons.mpr ⟨tk_40, List.forall_mem_cons.mpr ⟨tk_41, List.forall_mem_cons.mpr ⟨tk_42, List.forall_mem_cons.mpr ⟨tk_43, List.forall_mem_cons.mpr ⟨tk_44, List.forall_mem_cons.mpr ⟨tk_45, List.forall_mem_cons.mpr ⟨tk_46, List.forall_mem_cons.mpr ⟨tk_47, List.forall_mem_cons.mpr ⟨tk_48, List.forall_mem_cons.mpr ⟨tk_49, List.forall_mem_cons.mpr ⟨tk_50, List.forall_mem_cons.mpr ⟨tk_51, List.forall_mem_cons.mpr ⟨tk_52, List.forall_mem_cons.mpr ⟨tk_53, List.forall_mem_cons.mpr ⟨tk_54, List.forall_mem_cons.mpr ⟨tk_55, List.forall_mem_cons.mpr ⟨tk_56, List.forall_mem_cons.mpr ⟨tk_57, List.forall_mem_cons.mpr ⟨tk_58, List.forall_mem_cons.mpr ⟨tk_59, List.forall_mem_cons.mpr ⟨tk_60, List.forall_mem_cons.mpr ⟨tk_61, List.forall_mem_cons.mpr ⟨tk_62, List.forall_mem_cons.mpr ⟨tk_63, List.forall_mem_cons.mpr ⟨tk_64, List.forall_mem_cons.mpr ⟨tk_65, List.forall_mem_cons.mpr ⟨tk_66, List.forall_mem_cons.mpr ⟨tk_67, List.forall_mem_cons.mpr ⟨tk_68, List.forall_mem_cons.mpr ⟨tk_69, List.forall_mem_cons.mpr ⟨tk_70, List.forall_mem_cons.mpr ⟨tk_71, List.forall_mem_cons.mpr ⟨tk_72, List.forall_mem_cons.mpr ⟨tk_73, List.forall_mem_cons.mpr ⟨tk_74, List.forall_mem_cons.mpr ⟨tk_75, List.forall_mem_cons.mpr ⟨tk_76, List.forall_mem_cons.mpr ⟨tk_77, List.forall_mem_cons.mpr ⟨tk_78, List.forall_mem_cons.mpr ⟨tk_79, fun _ h => absurd h List.not_mem_nil⟩⟩⟩⟩⟩⟩⟩⟩⟩⟩⟩⟩⟩⟩⟩⟩⟩⟩⟩⟩⟩⟩⟩⟩⟩⟩⟩⟩⟩⟩⟩⟩⟩⟩⟩⟩⟩⟩⟩⟩
def TBQ_2 : List (List (Option (Instr × Nat)) × ByteArray) := [(tb_80, cX3_copyState), (tb_81, cX3_canComeTo), (tb_82, cX3_neverOpened), (tb_83, cX4_init), (tb_84, cX4_in), (tb_85, cX4_t), (tb_86, cX4_d), (tb_87, cX4_record), (tb_88, cX4_isDrawer), (tb_89, cX4_isGame), (tb_90, cX4_sumOf), (tb_91, cX4_goBuild), (tb_92, cX4_build), (tb_93, cX4_isSign), (tb_94, cX4_readsNumber), (tb_95, cX4_readsHold), (tb_96, cX4_readsDrawer), (tb_97, cX4_faultOf), (tb_98, cX4_buildAll), (tb_99, cX4_setBottoms), (tb_100, cX4_laidMany), (tb_101, cX4_lay), (tb_102, cX4_lacksHolder), (tb_103, cX4_asLaid), (tb_104, cX4_begin), (tb_105, cX4_giveUp), (tb_106, cX4_isReached), (tb_107, cX4_canOpen), (tb_108, cX4_canLift), (tb_109, cX4_canTake), (tb_110, cX4_step), (tb_111, cX4_turning), (tb_112, cX4_open), (tb_113, cX4_close), (tb_114, cX4_lift), (tb_115, cX4_handMany), (tb_116, cX4_take), (tb_117, cX4_seal), (tb_118, cX4_type), (tb_119, cX4_clearText)]
theorem tq_2 : ∀ q ∈ TBQ_2, tbOk q.1 q.2 = true := List.forall_mem_cons.mpr ⟨tk_80, List.forall_mem_cons.mpr ⟨tk_81, List.forall_mem_cons.mpr ⟨tk_82, List.forall_mem_cons.mpr ⟨tk_83, List.forall_mem_cons.mpr ⟨tk_84, List.forall_mem_cons.mpr ⟨tk_85, List.forall_mem_cons.mpr ⟨tk_86, List.forall_mem_cons.mpr ⟨tk_87, List.forall_mem_cons.mpr ⟨tk_88, List.forall_mem_cons.mpr ⟨tk_89, List.forall_mem_cons.mpr ⟨tk_90, List.forall_mem_cons.mpr ⟨tk_91, List.forall_mem_cons.mpr ⟨tk_92, List.forall_mem_cons.mpr ⟨tk_93, List.forall_mem_cons.mpr ⟨tk_94, List.forall_mem_cons.mpr ⟨tk_95, List.forall_mem_cons.mpr ⟨tk_96, List.forall_mem_cons.mpr ⟨tk_97, List.forall_mem_cons.mpr ⟨tk_98, List.forall_mem_cons.mpr ⟨tk_99, List.forall_mem_cons.mpr ⟨tk_100, List.forall_mem_cons.mpr ⟨tk_101, List.forall_mem_cons.mpr ⟨tk_102, List.forall_mem_cons.mpr ⟨tk_103, List.forall_mem_cons.mpr ⟨tk_104, List.forall_mem_cons.mpr ⟨tk_105, List.forall_mem_cons.mpr ⟨tk_106, List.forall_mem_cons.mpr ⟨tk_107, List.forall_mem_cons.mpr ⟨tk_108, List.forall_mem_cons.mpr ⟨tk_109, List.forall_mem_cons.mpr ⟨tk_110, List.forall_mem_cons.mpr ⟨tk_111, List.forall_mem_cons.mpr ⟨tk_112, List.forall_mem_cons.mpr ⟨tk_113, List.forall_mem_cons.mpr ⟨tk_114, List.forall_mem_cons.mpr ⟨tk_115, List.forall_mem_cons.mpr ⟨tk_116, List.forall_mem_cons.mpr ⟨tk_117, List.forall_mem_cons.mpr ⟨tk_118, List.forall_mem_cons.mpr ⟨tk_119, fun _ h => absurd h List.not_mem_nil⟩⟩⟩⟩⟩⟩⟩⟩⟩⟩⟩⟩⟩⟩⟩⟩⟩⟩⟩⟩⟩⟩⟩⟩⟩⟩⟩⟩⟩⟩⟩⟩⟩⟩⟩⟩⟩⟩⟩⟩
def TBQ_3 : List (List (Option (Instr × Nat)) × ByteArray) := [(tb_120, cX4_undo), (tb_121, cX4_keep), (tb_122, cX4_restore), (tb_123, cX4_isClosed), (tb_124, cX4_isHand), (tb_125, cX4_liftedOf), (tb_126, cX4_mark), (tb_127, cX4_markReach), (tb_128, cX4_markOpening), (tb_129, cX4_markLiftings), (tb_130, cX4_markTaking), (tb_131, cX4_reckon), (tb_132, cX4_areAll), (tb_133, cX4_gather), (tb_134, cX4_takenMany), (tb_135, cX4_takenSet), (tb_136, cX4_takenSeals), (tb_137, cX4_needs), (tb_138, cX4_hint), (tb_139, cX4_thingsIn), (tb_140, cX4_outersOf), (tb_141, cX4_drawer), (tb_142, cX4_thing), (tb_143, cX4_minutes), (tb_144, cX4_minutesBits), (tb_145, cX4_handSet), (tb_146, cX4_stuckSet), (tb_147, cX4_openableSet), (tb_148, cX4_count), (tb_149, cJxf58ca_isNaN_12338), (tb_150, cJxf58ca_floatToIntBits_5c35a), (tb_151, cJ6_bitCount_0f7a4), (tb_152, cJ9_max_7cf53), (tb_153, cL_law)]
theorem tq_3 : ∀ q ∈ TBQ_3, tbOk q.1 q.2 = true := List.forall_mem_cons.mpr ⟨tk_120, List.forall_mem_cons.mpr ⟨tk_121, List.forall_mem_cons.mpr ⟨tk_122, List.forall_mem_cons.mpr ⟨tk_123, List.forall_mem_cons.mpr ⟨tk_124, List.forall_mem_cons.mpr ⟨tk_125, List.forall_mem_cons.mpr ⟨tk_126, List.forall_mem_cons.mpr ⟨tk_127, List.forall_mem_cons.mpr ⟨tk_128, List.forall_mem_cons.mpr ⟨tk_129, List.forall_mem_cons.mpr ⟨tk_130, List.forall_mem_cons.mpr ⟨tk_131, List.forall_mem_cons.mpr ⟨tk_132, List.forall_mem_cons.mpr ⟨tk_133, List.forall_mem_cons.mpr ⟨tk_134, List.forall_mem_cons.mpr ⟨tk_135, List.forall_mem_cons.mpr ⟨tk_136, List.forall_mem_cons.mpr ⟨tk_137, List.forall_mem_cons.mpr ⟨tk_138, List.forall_mem_cons.mpr ⟨tk_139, List.forall_mem_cons.mpr ⟨tk_140, List.forall_mem_cons.mpr ⟨tk_141, List.forall_mem_cons.mpr ⟨tk_142, List.forall_mem_cons.mpr ⟨tk_143, List.forall_mem_cons.mpr ⟨tk_144, List.forall_mem_cons.mpr ⟨tk_145, List.forall_mem_cons.mpr ⟨tk_146, List.forall_mem_cons.mpr ⟨tk_147, List.forall_mem_cons.mpr ⟨tk_148, List.forall_mem_cons.mpr ⟨tk_149, List.forall_mem_cons.mpr ⟨tk_150, List.forall_mem_cons.mpr ⟨tk_151, List.forall_mem_cons.mpr ⟨tk_152, List.forall_mem_cons.mpr ⟨tk_153, fun _ h => absurd h List.not_mem_nil⟩⟩⟩⟩⟩⟩⟩⟩⟩⟩⟩⟩⟩⟩⟩⟩⟩⟩⟩⟩⟩⟩⟩⟩⟩⟩⟩⟩⟩⟩⟩⟩⟩⟩
def TBQ : List (List (Option (Instr × Nat)) × ByteArray) := TBQ_0 ++ (TBQ_1 ++ (TBQ_2 ++ (TBQ_3)))
theorem tq : ∀ q ∈ TBQ, tbOk q.1 q.2 = true := List.forall_mem_append.mpr ⟨tq_0, List.forall_mem_append.mpr ⟨tq_1, List.forall_mem_append.mpr ⟨tq_2, tq_3⟩⟩⟩
set_option maxRecDepth 100000 in
theorem tbq_eq : TBS.zip (MT.map (fun e => e.2.2.1)) = TBQ := rfl
set_option maxRecDepth 100000 in
theorem mt_len : MT.length = NM := rfl
set_option maxRecDepth 100000 in
theorem tbs_len : TBS.length = NM := rfl
theorem lk_in (own : Nat) : ∀ e ∈ LK own, ∀ w ∈ wLink own e, w ∈ lw_tbl := by
  match own with
  | 0 => exact fun e he w hw => pL_0 w (List.mem_flatMap.mpr ⟨e, he, hw⟩)
  | 1 => exact fun e he w hw => pL_1 w (List.mem_flatMap.mpr ⟨e, he, hw⟩)
  | 2 => exact fun e he w hw => pL_2 w (List.mem_flatMap.mpr ⟨e, he, hw⟩)
  | 3 => exact fun e he w hw => pL_3 w (List.mem_flatMap.mpr ⟨e, he, hw⟩)
  | 4 => exact fun e he w hw => pL_4 w (List.mem_flatMap.mpr ⟨e, he, hw⟩)
  | 5 => exact fun e he w hw => pL_5 w (List.mem_flatMap.mpr ⟨e, he, hw⟩)
  | 6 => exact fun e he => absurd he List.not_mem_nil
  | 7 => exact fun e he => absurd he List.not_mem_nil
  | 8 => exact fun e he => absurd he List.not_mem_nil
  | k + 9 => exact fun e he w hw => pL_9 w (List.mem_flatMap.mpr ⟨e, he, hw⟩)
theorem fk_in (own : Nat) : ∀ e ∈ FK own, wFld own e ∈ lw_tbl := by
  match own with
  | 0 => exact fun e he => pF_0 _ (List.mem_map.mpr ⟨e, he, rfl⟩)
  | 1 => exact fun e he => pF_1 _ (List.mem_map.mpr ⟨e, he, rfl⟩)
  | 2 => exact fun e he => pF_2 _ (List.mem_map.mpr ⟨e, he, rfl⟩)
  | 3 => exact fun e he => pF_3 _ (List.mem_map.mpr ⟨e, he, rfl⟩)
  | 4 => exact fun e he => pF_4 _ (List.mem_map.mpr ⟨e, he, rfl⟩)
  | 5 => exact fun e he => absurd he List.not_mem_nil
  | 6 => exact fun e he => absurd he List.not_mem_nil
  | 7 => exact fun e he => absurd he List.not_mem_nil
  | 8 => exact fun e he => absurd he List.not_mem_nil
  | k + 9 => exact fun e he => absurd he List.not_mem_nil
theorem ck_in (own : Nat) : ∀ e ∈ CK own, wCst own e ∈ lw_tbl := by
  match own with
  | 0 => exact fun e he => absurd he List.not_mem_nil
  | 1 => exact fun e he => absurd he List.not_mem_nil
  | 2 => exact fun e he => absurd he List.not_mem_nil
  | 3 => exact fun e he => pK_3 _ (List.mem_map.mpr ⟨e, he, rfl⟩)
  | 4 => exact fun e he => pK_4 _ (List.mem_map.mpr ⟨e, he, rfl⟩)
  | 5 => exact fun e he => pK_5 _ (List.mem_map.mpr ⟨e, he, rfl⟩)
  | 6 => exact fun e he => pK_6 _ (List.mem_map.mpr ⟨e, he, rfl⟩)
  | 7 => exact fun e he => absurd he List.not_mem_nil
  | 8 => exact fun e he => absurd he List.not_mem_nil
  | k + 9 => exact fun e he => absurd he List.not_mem_nil
theorem nk_in (own : Nat) : ∀ e ∈ NK own, ∀ w ∈ wNew own e, w ∈ lw_tbl := by
  match own with
  | 0 => exact fun e he => absurd he List.not_mem_nil
  | 1 => exact fun e he => absurd he List.not_mem_nil
  | 2 => exact fun e he => absurd he List.not_mem_nil
  | 3 => exact fun e he w hw => pN_3 w (List.mem_flatMap.mpr ⟨e, he, hw⟩)
  | 4 => exact fun e he => absurd he List.not_mem_nil
  | 5 => exact fun e he => absurd he List.not_mem_nil
  | 6 => exact fun e he => absurd he List.not_mem_nil
  | 7 => exact fun e he => absurd he List.not_mem_nil
  | 8 => exact fun e he => absurd he List.not_mem_nil
  | k + 9 => exact fun e he w hw => pN_9 w (List.mem_flatMap.mpr ⟨e, he, hw⟩)
theorem mt_in : ∀ e ∈ MT.take yLAW, wCode e ∈ lw_tbl := by
  have h : MT.take yLAW = MT_0 ++ (MT_1 ++ (MT_2 ++ (MT_3.take 33))) := rfl
  rw [h]
  exact List.forall_mem_append.mpr ⟨fun e he => pC_0 _ (List.mem_map.mpr ⟨e, he, rfl⟩), List.forall_mem_append.mpr ⟨fun e he => pC_1 _ (List.mem_map.mpr ⟨e, he, rfl⟩), List.forall_mem_append.mpr ⟨fun e he => pC_2 _ (List.mem_map.mpr ⟨e, he, rfl⟩), fun e he => pC_3 _ (List.mem_map.mpr ⟨e, he, rfl⟩)⟩⟩⟩
theorem mem_WS {w : Cond} (h : w ∈ lw_tbl) (g : goodWord w = true) : w ∈ WS := List.mem_filter.mpr ⟨h, g⟩
theorem WS_good : ∀ w ∈ WS, goodWord w = true := fun _ h => (List.mem_filter.mp h).2
theorem find_in {α : Type} {l : List (Nat × α)} {ix : Nat} {q : α} (h : (l.find? (fun e => e.1 == ix)).map (·.2) = some q) : (ix, q) ∈ l := by
  obtain ⟨e, he, hq⟩ := Option.map_eq_some_iff.mp h
  have h1 := List.find?_some he
  have h2 := List.mem_of_find?_eq_some he
  have h3 : e.1 = ix := by simpa using h1
  obtain ⟨a, b⟩ := e
  dsimp only at h3 hq
  subst h3; subst hq
  exact h2
theorem lnk_in {own ix : Nat} {q : Nat × Nat} (h : lnk own ix = some q) : ∀ w ∈ wLink own (ix, q), w ∈ lw_tbl := lk_in own (ix, q) (find_in h)
theorem fld_in {own ix : Nat} {q : Nat × Nat} (h : fld own ix = some q) : wFld own (ix, q) ∈ lw_tbl := fk_in own (ix, q) (find_in h)
theorem cst_in {own ix : Nat} {v : Value} (h : cst own ix = some v) : wCst own (ix, v) ∈ lw_tbl := ck_in own (ix, v) (find_in h)
theorem nwc_in {own ix : Nat} {ci : Nat} (h : nwc own ix = some ci) : ∀ w ∈ wNew own (ix, ci), w ∈ lw_tbl := nk_in own (ix, ci) (find_in h)
theorem mrow_at {y : Nat} (h : y < NM) : MT[y]? = some (mrow y) := by
  have h1 : y < MT.length := by rw [mt_len]; exact h
  rw [List.getElem?_eq_getElem h1, mrow, List.getD_eq_getElem?_getD, List.getElem?_eq_getElem h1]
  rfl
theorem TB_ok {y pc n : Nat} {i : Instr} (hy : y < NM) (h : TB y pc = some (i, n)) : decode (mcd y) pc = .ok (i, n) := by
  unfold TB at h
  cases ht : TBS[y]? with
  | none => rw [ht] at h; cases h
  | some tb =>
    rw [ht] at h
    dsimp only at h
    have hm : (tb, mcd y) ∈ TBQ := by
      rw [← tbq_eq]
      refine List.mem_of_getElem? (i := y) ?_
      rw [List.getElem?_zip_eq_some]
      refine ⟨ht, ?_⟩
      rw [List.getElem?_map, mrow_at hy]
      rfl
    have hq := tq _ hm
    cases hp : tb[pc]? with
    | none => rw [hp] at h; cases h
    | some r =>
      rw [hp] at h
      dsimp only at h
      subst h
      have hlt : pc < tb.length := (List.getElem?_eq_some_iff.mp hp).1
      have h2 := List.all_eq_true.mp hq pc (List.mem_range.mpr hlt)
      rw [hp] at h2
      simpa using h2
theorem mt_word {y : Nat} (hy : y < yLAW) : Cond.code (mnm y) (mcd y) (mml y) (mrt y) ∈ lw_tbl := by
  have h1 := mrow_at (y := y) (Nat.lt_trans hy (by decide))
  refine mt_in (mrow y) (List.mem_of_getElem? (i := y) ?_)
  rw [List.getElem?_take_of_lt hy]
  exact h1
set_option maxRecDepth 100000 in
theorem mt_facts : ∀ y, y < NM → (mnm y).cls = CN (mown y) ∧ plainFor (mnm y) = true ∧ ((mnm y).cls ≠ "java/lang/invoke/MethodHandle" ∧ (mnm y).cls ≠ "java/lang/invoke/VarHandle" ∧ (parseMethodDescriptor (mnm y).desc).map (fun d => d.parameters.length) = some (mna y)) ∧ mml y ≤ 16 ∧ mown y < 10 := by decide +kernel
theorem in_init {c : Nat} (h : c < 10) : Cond.initialized (CN c) ∈ lw_tbl := pI _ (List.mem_map.mpr ⟨c, by
  have : c = 0 ∨ c = 1 ∨ c = 2 ∨ c = 3 ∨ c = 4 ∨ c = 5 ∨ c = 6 ∨ c = 7 ∨ c = 8 ∨ c = 9 := by omega
  simpa using this, rfl⟩)
theorem lays_good {C : String} {T : u_T} {N : Nat} : ∀ w ∈ u_ws C T N, goodWord w = true := by
  intro w hw
  obtain ⟨k, -, rfl⟩ := List.mem_map.mp hw
  unfold u_lay
  split <;> first | rfl | simp [goodWord, Cond.onTables, Cond.keeps, Cond.steady]
/-- the classes whose objects the world holds -/
theorem cl_ok {ci : Nat} {r : vw_C} (h : vwCl[ci]? = some r) : (∀ w ∈ u_ws r.1 r.2.1 r.2.2, w ∈ WS) ∧ (∀ k, k < r.2.2 → parseFieldDescriptor (r.2.1 k).2.2.1 = some (tyOf ci k)) ∧ (∀ a, a < r.2.2 → ∀ b, b < r.2.2 → a ≠ b → (r.2.1 a).2.1 ≠ (r.2.1 b).2.1) ∧ r.1 = CN ci ∧ nf ci = r.2.2 ∧ (∀ k, fin ci k = (r.2.1 k).2.2.2) ∧ (∀ k, k < r.2.2 → (r.2.1 k).1 = r.1) := by
  match ci, h with
  | 0, h => cases h; exact ⟨fun w hw => mem_WS (inF_0 w hw) (lays_good w hw), tyX0_ok, nmX0, rfl, rfl, fun _ => rfl, by decide +kernel⟩
  | 1, h => cases h; exact ⟨fun w hw => mem_WS (inF_1 w hw) (lays_good w hw), tyX1_ok, nmX1, rfl, rfl, fun _ => rfl, by decide +kernel⟩
  | 2, h => cases h; exact ⟨fun w hw => mem_WS (inF_2 w hw) (lays_good w hw), tyX2_ok, nmX2, rfl, rfl, fun _ => rfl, by decide +kernel⟩
  | 3, h => cases h; exact ⟨fun w hw => mem_WS (inF_3 w hw) (lays_good w hw), tyX3_ok, nmX3, rfl, rfl, fun _ => rfl, by decide +kernel⟩
  | 4, h => cases h; exact ⟨fun w hw => mem_WS (inF_4 w hw) (lays_good w hw), tyX4_ok, nmX4, rfl, rfl, fun _ => rfl, by decide +kernel⟩
  | k + 5, h => simp [vwCl] at h
theorem nf_some {ci k : Nat} (h : k < nf ci) : ∃ r, vwCl[ci]? = some r ∧ nf ci = r.2.2 := by
  cases hc : vwCl[ci]? with
  | none => unfold nf at h; rw [hc] at h; exact absurd h (Nat.not_lt_zero _)
  | some r => exact ⟨r, rfl, by unfold nf; rw [hc]⟩
theorem in_X {w : Cond} (h : w ∈ [Cond.arrayClass .int, .arrayClass .char, .arrayClass .boolean, .arrayClass .double, .arrayOver (.object RX2), .code objectInit ⟨#[0xb1]⟩ 1 none]) : w ∈ lw_tbl := pX w h


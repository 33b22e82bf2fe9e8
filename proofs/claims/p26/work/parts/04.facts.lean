/-! what the tables say, in the form in which it is used -/
def TBQ_0 : List (List (Option (Instr × Nat)) × ByteArray) := [(tb_0, cX0_init), (tb_1, cX1_init), (tb_2, cX1_make), (tb_3, cX1_countSteps), (tb_4, cX1_countLiftings), (tb_5, cX1_firstStep), (tb_6, cX1_isLiftingIn), (tb_7, cX1_addNeedsOfAll), (tb_8, cX1_addWayInto), (tb_9, cX1_addNeedsOfOpening), (tb_10, cX1_addNeedsOfTaking), (tb_11, cX1_addOpening), (tb_12, cX1_addTaking)]
theorem tq_0 : ∀ q ∈ TBQ_0, tbOk q.1 q.2 = true := List.forall_mem_cons.mpr ⟨tk_0, List.forall_mem_cons.mpr ⟨tk_1, List.forall_mem_cons.mpr ⟨tk_2, List.forall_mem_cons.mpr ⟨tk_3, List.forall_mem_cons.mpr ⟨tk_4, List.forall_mem_cons.mpr ⟨tk_5, List.forall_mem_cons.mpr ⟨tk_6, List.forall_mem_cons.mpr ⟨tk_7, List.forall_mem_cons.mpr ⟨tk_8, List.forall_mem_cons.mpr ⟨tk_9, List.forall_mem_cons.mpr ⟨tk_10, List.forall_mem_cons.mpr ⟨tk_11, List.forall_mem_cons.mpr ⟨tk_12, fun _ h => absurd h List.not_mem_nil⟩⟩⟩⟩⟩⟩⟩⟩⟩⟩⟩⟩⟩
def TBQ_1 : List (List (Option (Instr × Nat)) × ByteArray) := [(tb_13, cX2_init), (tb_14, cX2_copyFrom), (tb_15, cX2_addDrawer), (tb_16, cX2_changeBottoms), (tb_17, cX2_putBack), (tb_18, cX2_isThere), (tb_19, cX2_isOpen), (tb_20, cX2_isInHand), (tb_21, cX2_isReached), (tb_22, cX2_canOpen), (tb_23, cX2_isLetByHold), (tb_24, cX2_hasBottomLeft), (tb_25, cX2_canLift)]
theorem tq_1 : ∀ q ∈ TBQ_1, tbOk q.1 q.2 = true := List.forall_mem_cons.mpr ⟨tk_13, List.forall_mem_cons.mpr ⟨tk_14, List.forall_mem_cons.mpr ⟨tk_15, List.forall_mem_cons.mpr ⟨tk_16, List.forall_mem_cons.mpr ⟨tk_17, List.forall_mem_cons.mpr ⟨tk_18, List.forall_mem_cons.mpr ⟨tk_19, List.forall_mem_cons.mpr ⟨tk_20, List.forall_mem_cons.mpr ⟨tk_21, List.forall_mem_cons.mpr ⟨tk_22, List.forall_mem_cons.mpr ⟨tk_23, List.forall_mem_cons.mpr ⟨tk_24, List.forall_mem_cons.mpr ⟨tk_25, fun _ h => absurd h List.not_mem_nil⟩⟩⟩⟩⟩⟩⟩⟩⟩⟩⟩⟩⟩
def TBQ_2 : List (List (Option (Instr × Nat)) × ByteArray) := [(tb_26, cX2_canTake), (tb_27, cX2_canSeal), (tb_28, cX2_setOpen), (tb_29, cX2_addStep), (tb_30, cX2_makeAllSteps), (tb_31, cX2_makeSteps), (tb_32, cX2_hasAllHolders), (tb_33, cX2_openableNow), (tb_34, cX2_countWholeSeals), (tb_35, cX2_countThingsInDrawers), (tb_36, cX2_countThingsIn), (tb_37, cX2_countOuters), (tb_38, cX3_init)]
theorem tq_2 : ∀ q ∈ TBQ_2, tbOk q.1 q.2 = true := List.forall_mem_cons.mpr ⟨tk_26, List.forall_mem_cons.mpr ⟨tk_27, List.forall_mem_cons.mpr ⟨tk_28, List.forall_mem_cons.mpr ⟨tk_29, List.forall_mem_cons.mpr ⟨tk_30, List.forall_mem_cons.mpr ⟨tk_31, List.forall_mem_cons.mpr ⟨tk_32, List.forall_mem_cons.mpr ⟨tk_33, List.forall_mem_cons.mpr ⟨tk_34, List.forall_mem_cons.mpr ⟨tk_35, List.forall_mem_cons.mpr ⟨tk_36, List.forall_mem_cons.mpr ⟨tk_37, List.forall_mem_cons.mpr ⟨tk_38, fun _ h => absurd h List.not_mem_nil⟩⟩⟩⟩⟩⟩⟩⟩⟩⟩⟩⟩⟩
def TBQ_3 : List (List (Option (Instr × Nat)) × ByteArray) := [(tb_39, cX3_build), (tb_40, cX3_setBottoms), (tb_41, cX3_lay), (tb_42, cX3_begin), (tb_43, cX3_giveUp), (tb_44, cX3_open), (tb_45, cX3_close), (tb_46, cX3_lift), (tb_47, cX3_take), (tb_48, cX3_seal), (tb_49, cX3_undo), (tb_50, cX3_drawer), (tb_51, cX3_thing)]
theorem tq_3 : ∀ q ∈ TBQ_3, tbOk q.1 q.2 = true := List.forall_mem_cons.mpr ⟨tk_39, List.forall_mem_cons.mpr ⟨tk_40, List.forall_mem_cons.mpr ⟨tk_41, List.forall_mem_cons.mpr ⟨tk_42, List.forall_mem_cons.mpr ⟨tk_43, List.forall_mem_cons.mpr ⟨tk_44, List.forall_mem_cons.mpr ⟨tk_45, List.forall_mem_cons.mpr ⟨tk_46, List.forall_mem_cons.mpr ⟨tk_47, List.forall_mem_cons.mpr ⟨tk_48, List.forall_mem_cons.mpr ⟨tk_49, List.forall_mem_cons.mpr ⟨tk_50, List.forall_mem_cons.mpr ⟨tk_51, fun _ h => absurd h List.not_mem_nil⟩⟩⟩⟩⟩⟩⟩⟩⟩⟩⟩⟩⟩
def TBQ_4 : List (List (Option (Instr × Nat)) × ByteArray) := [(tb_52, cX3_needs), (tb_53, cX3_hint), (tb_54, cX3_minutes), (tb_55, cX3_minutesBits), (tb_56, cX3_count), (tb_57, cX3_isHold), (tb_58, cX3_isThing), (tb_59, cX3_oneIf), (tb_60, cX3_bit), (tb_61, cX3_isIn), (tb_62, cX3_bitsOf), (tb_63, cX3_recordState), (tb_64, cX3_dropOldest)]
theorem tq_4 : ∀ q ∈ TBQ_4, tbOk q.1 q.2 = true := List.forall_mem_cons.mpr ⟨tk_52, List.forall_mem_cons.mpr ⟨tk_53, List.forall_mem_cons.mpr ⟨tk_54, List.forall_mem_cons.mpr ⟨tk_55, List.forall_mem_cons.mpr ⟨tk_56, List.forall_mem_cons.mpr ⟨tk_57, List.forall_mem_cons.mpr ⟨tk_58, List.forall_mem_cons.mpr ⟨tk_59, List.forall_mem_cons.mpr ⟨tk_60, List.forall_mem_cons.mpr ⟨tk_61, List.forall_mem_cons.mpr ⟨tk_62, List.forall_mem_cons.mpr ⟨tk_63, List.forall_mem_cons.mpr ⟨tk_64, fun _ h => absurd h List.not_mem_nil⟩⟩⟩⟩⟩⟩⟩⟩⟩⟩⟩⟩⟩
def TBQ_5 : List (List (Option (Instr × Nat)) × ByteArray) := [(tb_65, cX3_copyState), (tb_66, cX3_canComeTo), (tb_67, cX3_neverOpened), (tb_68, cJ6_bitCount_0f7a4), (tb_69, cJ9_max_7cf53), (tb_70, cL_cell), (tb_71, cL_bits), (tb_72, cL_isNeeded), (tb_73, cL_goes), (tb_74, cL_builds), (tb_75, cL_isAll), (tb_76, cL_acts), (tb_77, cL_law)]
theorem tq_5 : ∀ q ∈ TBQ_5, tbOk q.1 q.2 = true := List.forall_mem_cons.mpr ⟨tk_65, List.forall_mem_cons.mpr ⟨tk_66, List.forall_mem_cons.mpr ⟨tk_67, List.forall_mem_cons.mpr ⟨tk_68, List.forall_mem_cons.mpr ⟨tk_69, List.forall_mem_cons.mpr ⟨tk_70, List.forall_mem_cons.mpr ⟨tk_71, List.forall_mem_cons.mpr ⟨tk_72, List.forall_mem_cons.mpr ⟨tk_73, List.forall_mem_cons.mpr ⟨tk_74, List.forall_mem_cons.mpr ⟨tk_75, List.forall_mem_cons.mpr ⟨tk_76, List.forall_mem_cons.mpr ⟨tk_77, fun _ h => absurd h List.not_mem_nil⟩⟩⟩⟩⟩⟩⟩⟩⟩⟩⟩⟩⟩
def TBQ : List (List (Option (Instr × Nat)) × ByteArray) := TBQ_0 ++ (TBQ_1 ++ (TBQ_2 ++ (TBQ_3 ++ (TBQ_4 ++ (TBQ_5)))))
theorem tq : ∀ q ∈ TBQ, tbOk q.1 q.2 = true := List.forall_mem_append.mpr ⟨tq_0, List.forall_mem_append.mpr ⟨tq_1, List.forall_mem_append.mpr ⟨tq_2, List.forall_mem_append.mpr ⟨tq_3, List.forall_mem_append.mpr ⟨tq_4, tq_5⟩⟩⟩⟩⟩
set_option maxRecDepth 100000 in
theorem tbq_eq : TBS.zip (MT.map (fun e => e.2.2.1)) = TBQ := rfl
set_option maxRecDepth 100000 in
theorem mt_len : MT.length = NM := rfl
set_option maxRecDepth 100000 in
theorem tbs_len : TBS.length = NM := rfl
theorem lk_in (own : Nat) : ∀ e ∈ LK own, ∀ w ∈ wLink own e, w ∈ lw_tbl := by
  match own with
  | 0 => exact fun e he w hw => pL_0 w (List.mem_flatMap.mpr ⟨e, he, hw⟩)
  | 1 => exact fun e he w hw => pL_1 w (List.mem_flatMap.mpr ⟨e, he, hw⟩)
  | 2 => exact fun e he w hw => pL_2 w (List.mem_flatMap.mpr ⟨e, he, hw⟩)
  | 3 => exact fun e he w hw => pL_3 w (List.mem_flatMap.mpr ⟨e, he, hw⟩)
  | 4 => exact fun e he => absurd he List.not_mem_nil
  | 5 => exact fun e he => absurd he List.not_mem_nil
  | 6 => exact fun e he => absurd he List.not_mem_nil
  | k + 7 => exact fun e he w hw => pL_7 w (List.mem_flatMap.mpr ⟨e, he, hw⟩)
theorem fk_in (own : Nat) : ∀ e ∈ FK own, wFld own e ∈ lw_tbl := by
  match own with
  | 0 => exact fun e he => pF_0 _ (List.mem_map.mpr ⟨e, he, rfl⟩)
  | 1 => exact fun e he => pF_1 _ (List.mem_map.mpr ⟨e, he, rfl⟩)
  | 2 => exact fun e he => pF_2 _ (List.mem_map.mpr ⟨e, he, rfl⟩)
  | 3 => exact fun e he => pF_3 _ (List.mem_map.mpr ⟨e, he, rfl⟩)
  | 4 => exact fun e he => absurd he List.not_mem_nil
  | 5 => exact fun e he => absurd he List.not_mem_nil
  | 6 => exact fun e he => absurd he List.not_mem_nil
  | k + 7 => exact fun e he => absurd he List.not_mem_nil
theorem ck_in (own : Nat) : ∀ e ∈ CK own, wCst own e ∈ lw_tbl := by
  match own with
  | 0 => exact fun e he => absurd he List.not_mem_nil
  | 1 => exact fun e he => absurd he List.not_mem_nil
  | 2 => exact fun e he => absurd he List.not_mem_nil
  | 3 => exact fun e he => pK_3 _ (List.mem_map.mpr ⟨e, he, rfl⟩)
  | 4 => exact fun e he => pK_4 _ (List.mem_map.mpr ⟨e, he, rfl⟩)
  | 5 => exact fun e he => absurd he List.not_mem_nil
  | 6 => exact fun e he => absurd he List.not_mem_nil
  | k + 7 => exact fun e he => pK_7 _ (List.mem_map.mpr ⟨e, he, rfl⟩)
theorem nk_in (own : Nat) : ∀ e ∈ NK own, ∀ w ∈ wNew own e, w ∈ lw_tbl := by
  match own with
  | 0 => exact fun e he => absurd he List.not_mem_nil
  | 1 => exact fun e he => absurd he List.not_mem_nil
  | 2 => exact fun e he => absurd he List.not_mem_nil
  | 3 => exact fun e he w hw => pN_3 w (List.mem_flatMap.mpr ⟨e, he, hw⟩)
  | 4 => exact fun e he => absurd he List.not_mem_nil
  | 5 => exact fun e he => absurd he List.not_mem_nil
  | 6 => exact fun e he => absurd he List.not_mem_nil
  | k + 7 => exact fun e he w hw => pN_7 w (List.mem_flatMap.mpr ⟨e, he, hw⟩)
theorem mt_in : ∀ e ∈ MT.take yLAW, wCode e ∈ lw_tbl := by
  have h : MT.take yLAW = MT_0 ++ (MT_1 ++ (MT_2 ++ (MT_3 ++ (MT_4 ++ (MT_5.take 12))))) := rfl
  rw [h]
  exact List.forall_mem_append.mpr ⟨fun e he => pC_0 _ (List.mem_map.mpr ⟨e, he, rfl⟩), List.forall_mem_append.mpr ⟨fun e he => pC_1 _ (List.mem_map.mpr ⟨e, he, rfl⟩), List.forall_mem_append.mpr ⟨fun e he => pC_2 _ (List.mem_map.mpr ⟨e, he, rfl⟩), List.forall_mem_append.mpr ⟨fun e he => pC_3 _ (List.mem_map.mpr ⟨e, he, rfl⟩), List.forall_mem_append.mpr ⟨fun e he => pC_4 _ (List.mem_map.mpr ⟨e, he, rfl⟩), fun e he => pC_5 _ (List.mem_map.mpr ⟨e, he, rfl⟩)⟩⟩⟩⟩⟩
theorem mem_WS {w : Cond} (h : w ∈ lw_tbl) (g : goodWord w = true) : w ∈ WS := List.mem_filter.mpr ⟨h, g⟩
theorem WS_good : ∀ w ∈ WS, goodWord w = true := fun _ h => (List.mem_filter.mp h).2
theorem find_in {α : Type} {l : List (Nat × α)} {ix : Nat} {q : α} (h : (l.find? (fun e => e.1 == ix)).map (·.2) = some q) : (ix, q) ∈ l := by
  obtain ⟨e, he, hq⟩ := Option.map_eq_some_iff.mp h
  have h1 := List.find?_some he
  have h2 := List.mem_of_find?_eq_some he
  have h3 : e.1 = ix := by simpa using h1
  obtain ⟨a, b⟩ := e
  dsimp only at h3 hq
  subst h3; subst hq
  exact h2
theorem lnk_in {own ix : Nat} {q : Nat × Nat} (h : lnk own ix = some q) : ∀ w ∈ wLink own (ix, q), w ∈ lw_tbl := lk_in own (ix, q) (find_in h)
theorem fld_in {own ix : Nat} {q : Nat × Nat} (h : fld own ix = some q) : wFld own (ix, q) ∈ lw_tbl := fk_in own (ix, q) (find_in h)
theorem cst_in {own ix : Nat} {v : Value} (h : cst own ix = some v) : wCst own (ix, v) ∈ lw_tbl := ck_in own (ix, v) (find_in h)
theorem nwc_in {own ix : Nat} {ci : Nat} (h : nwc own ix = some ci) : ∀ w ∈ wNew own (ix, ci), w ∈ lw_tbl := nk_in own (ix, ci) (find_in h)
theorem mrow_at {y : Nat} (h : y < NM) : MT[y]? = some (mrow y) := by
  have h1 : y < MT.length := by rw [mt_len]; exact h
  rw [List.getElem?_eq_getElem h1, mrow, List.getD_eq_getElem?_getD, List.getElem?_eq_getElem h1]
  rfl
theorem TB_ok {y pc n : Nat} {i : Instr} (hy : y < NM) (h : TB y pc = some (i, n)) : decode (mcd y) pc = .ok (i, n) := by
  unfold TB at h
  cases ht : TBS[y]? with
  | none => rw [ht] at h; cases h
  | some tb =>
    rw [ht] at h
    dsimp only at h
    have hm : (tb, mcd y) ∈ TBQ := by
      rw [← tbq_eq]
      refine List.mem_of_getElem? (i := y) ?_
      rw [List.getElem?_zip_eq_some]
      refine ⟨ht, ?_⟩
      rw [List.getElem?_map, mrow_at hy]
      rfl
    have hq := tq _ hm
    cases hp : tb[pc]? with
    | none => rw [hp] at h; cases h
    | some r =>
      rw [hp] at h
      dsimp only at h
      subst h
      have hlt : pc < tb.length := (List.getElem?_eq_some_iff.mp hp).1
      have h2 := List.all_eq_true.mp hq pc (List.mem_range.mpr hlt)
      rw [hp] at h2
      simpa using h2
theorem mt_word {y : Nat} (hy : y < yLAW) : Cond.code (mnm y) (mcd y) (mml y) (mrt y) ∈ lw_tbl := by
  have h1 := mrow_at (y := y) (Nat.lt_trans hy (by decide))
  refine mt_in (mrow y) (List.mem_of_getElem? (i := y) ?_)
  rw [List.getElem?_take_of_lt hy]
  exact h1
set_option maxRecDepth 100000 in
theorem mt_facts : ∀ y, y < NM → (mnm y).cls = CN (mown y) ∧ plainFor (mnm y) = true ∧ ((mnm y).cls ≠ "java/lang/invoke/MethodHandle" ∧ (mnm y).cls ≠ "java/lang/invoke/VarHandle" ∧ (parseMethodDescriptor (mnm y).desc).map (fun d => d.parameters.length) = some (mna y)) ∧ mml y ≤ 16 ∧ mown y < 8 := by decide +kernel
theorem in_init {c : Nat} (h : c < 8) : Cond.initialized (CN c) ∈ lw_tbl := pI _ (List.mem_map.mpr ⟨c, by
  have : c = 0 ∨ c = 1 ∨ c = 2 ∨ c = 3 ∨ c = 4 ∨ c = 5 ∨ c = 6 ∨ c = 7 := by omega
  simpa using this, rfl⟩)
theorem lays_good {C : String} {T : u_T} {N : Nat} : ∀ w ∈ u_ws C T N, goodWord w = true := by
  intro w hw
  obtain ⟨k, -, rfl⟩ := List.mem_map.mp hw
  unfold u_lay
  split <;> first | rfl | simp [goodWord, Cond.onTables, Cond.keeps, Cond.steady]
/-- the classes whose objects the world holds -/
theorem cl_ok {ci : Nat} {r : vw_C} (h : vwCl[ci]? = some r) : (∀ w ∈ u_ws r.1 r.2.1 r.2.2, w ∈ WS) ∧ (∀ k, k < r.2.2 → parseFieldDescriptor (r.2.1 k).2.2.1 = some (tyOf ci k)) ∧ (∀ a, a < r.2.2 → ∀ b, b < r.2.2 → a ≠ b → (r.2.1 a).2.1 ≠ (r.2.1 b).2.1) ∧ r.1 = CN ci ∧ nf ci = r.2.2 ∧ (∀ k, fin ci k = (r.2.1 k).2.2.2) ∧ (∀ k, k < r.2.2 → (r.2.1 k).1 = r.1) := by
  match ci, h with
  | 0, h => cases h; exact ⟨fun w hw => mem_WS (inF_0 w hw) (lays_good w hw), tyX0_ok, nmX0, rfl, rfl, fun _ => rfl, by decide +kernel⟩
  | 1, h => cases h; exact ⟨fun w hw => mem_WS (inF_1 w hw) (lays_good w hw), tyX1_ok, nmX1, rfl, rfl, fun _ => rfl, by decide +kernel⟩
  | 2, h => cases h; exact ⟨fun w hw => mem_WS (inF_2 w hw) (lays_good w hw), tyX2_ok, nmX2, rfl, rfl, fun _ => rfl, by decide +kernel⟩
  | 3, h => cases h; exact ⟨fun w hw => mem_WS (inF_3 w hw) (lays_good w hw), tyX3_ok, nmX3, rfl, rfl, fun _ => rfl, by decide +kernel⟩
  | k + 4, h => simp [vwCl] at h
theorem nf_some {ci k : Nat} (h : k < nf ci) : ∃ r, vwCl[ci]? = some r ∧ nf ci = r.2.2 := by
  cases hc : vwCl[ci]? with
  | none => unfold nf at h; rw [hc] at h; exact absurd h (Nat.not_lt_zero _)
  | some r => exact ⟨r, rfl, by unfold nf; rw [hc]⟩
theorem in_X {w : Cond} (h : w ∈ [Cond.arrayClass .int, .arrayClass .char, .arrayOver (.object RX2), .code objectInit ⟨#[0xb1]⟩ 1 none]) : w ∈ lw_tbl := pX w h


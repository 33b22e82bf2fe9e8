/-! SOUNDNESS, all instructions -/
theorem nk_lt (own : Nat) : ∀ e ∈ NK own, e.2 < 4 := by
  match own with
  | 0 => exact (by decide : ∀ e ∈ NK_0, e.2 < 4)
  | 1 => exact (by decide : ∀ e ∈ NK_1, e.2 < 4)
  | 2 => exact (by decide : ∀ e ∈ NK_2, e.2 < 4)
  | 3 => exact (by decide : ∀ e ∈ NK_3, e.2 < 4)
  | 4 => exact (by decide : ∀ e ∈ NK_4, e.2 < 4)
  | 5 => exact (by decide : ∀ e ∈ NK_5, e.2 < 4)
  | 6 => exact (by decide : ∀ e ∈ NK_6, e.2 < 4)
  | k + 7 => exact (by decide : ∀ e ∈ NK_7, e.2 < 4)
abbrev lkInit (e : Nat × Nat × Nat) : Prop := ((e.2.1 = 2 ∨ e.2.1 = 4) → mrt e.2.2 = none ∧ (mnm e.2.2).name = "<init>") ∧ (e.2.1 = 8 → e.2.2 = nJ9_max_7cf53)
set_option maxRecDepth 100000 in
theorem lki_0 : ∀ e ∈ LK_0, lkInit e := by decide +kernel
set_option maxRecDepth 100000 in
theorem lki_1 : ∀ e ∈ LK_1, lkInit e := by decide +kernel
set_option maxRecDepth 100000 in
theorem lki_2 : ∀ e ∈ LK_2, lkInit e := by decide +kernel
set_option maxRecDepth 100000 in
theorem lki_3 : ∀ e ∈ LK_3, lkInit e := by decide +kernel
set_option maxRecDepth 100000 in
theorem lki_4 : ∀ e ∈ LK_4, lkInit e := by decide +kernel
set_option maxRecDepth 100000 in
theorem lki_5 : ∀ e ∈ LK_5, lkInit e := by decide +kernel
set_option maxRecDepth 100000 in
theorem lki_6 : ∀ e ∈ LK_6, lkInit e := by decide +kernel
set_option maxRecDepth 100000 in
theorem lki_7 : ∀ e ∈ LK_7, lkInit e := by decide +kernel
theorem lk_init (own : Nat) : ∀ e ∈ LK own, lkInit e := by
  match own with
  | 0 => exact lki_0
  | 1 => exact lki_1
  | 2 => exact lki_2
  | 3 => exact lki_3
  | 4 => exact lki_4
  | 5 => exact lki_5
  | 6 => exact lki_6
  | k + 7 => exact lki_7
theorem SH_lt : ∀ c, (SH c).1 = 0 → (SH c).2 < 4 := by
  have h : ∀ q ∈ SHL, q.1 = 0 → q.2 < 4 := by decide
  intro c hc
  by_cases hl : c < SHL.length
  · have e : SH c = SHL[c] := by unfold SH; rw [List.getD_eq_getElem?_getD, List.getElem?_eq_getElem hl]; rfl
    rw [e] at hc ⊢
    exact h _ (List.getElem_mem hl) hc
  · have e : SH c = (9, 0) := by unfold SH; rw [List.getD_eq_getElem?_getD, List.getElem?_eq_none (by omega)]; rfl
    rw [e] at hc
    cases hc
theorem cl_some {ci : Nat} (h : ci < 4) : ∃ r, vwCl[ci]? = some r ∧ r.1 = CN ci ∧ nf ci = r.2.2 := by
  have hl : ci < vwCl.length := h
  have e := List.getElem?_eq_getElem hl
  obtain ⟨-, -, -, h4, h5, -⟩ := cl_ok e
  exact ⟨_, e, h4, h5⟩
theorem max_nm : mnm nJ9_max_7cf53 = Lib.Math.max.name ∧ mcd nJ9_max_7cf53 = Lib.Math.max.code ∧ mml nJ9_max_7cf53 = 2 ∧ mrt nJ9_max_7cf53 = some .int := by decide +kernel
section SN
variable {p : Program} {l : Launch} {e : Env} {R : Room} {s : State} {m : MethodId} {args : Array Value} {below : List Frame} {meth : Method} {c : Code} {Q : State → Prop}
variable {B b : Nat} {dC : Nat → ClassId} {dI : Nat → Nat → Nat} {dA : Nat → ClassId} {N0 dd NT y : Nat} {scr : Option (Nat × (Nat → Int32))} {call : Cal} {K : Kn} {Q1 : Option Value → Mm → Prop}
theorem vms_int (r : List Value) (x : Int32) : (Value.int x :: r).map (vm B b) = .int x :: r.map (vm B b) := rfl
theorem link_good {own : String} {ix : Nat} {y : MethodName} : goodWord (Cond.methodLink own ix y) = true := by first | rfl | simp [goodWord, Cond.onTables, Cond.keeps, Cond.steady]
theorem inst_good {y : MethodName} : goodWord (Cond.instanceMethod y) = true := by first | rfl | simp [goodWord, Cond.onTables, Cond.keeps, Cond.steady]
theorem stat_good {y : MethodName} : goodWord (Cond.static y) = true := by first | rfl | simp [goodWord, Cond.onTables, Cond.keeps, Cond.steady]
theorem nat_good {y : MethodName} : goodWord (Cond.native y) = true := by first | rfl | simp [goodWord, Cond.onTables, Cond.keeps, Cond.steady]
theorem sel_good {C : String} {y : MethodName} : goodWord (Cond.selects C y y) = true := by first | rfl | simp [goodWord, Cond.onTables, Cond.keeps, Cond.steady]
theorem init_good {C : String} : goodWord (Cond.initialized C) = true := by first | rfl | simp [goodWord, Cond.onTables, Cond.keeps, Cond.steady]
theorem ocode_good : goodWord (Cond.code objectInit ⟨#[0xb1]⟩ 1 none) = true := by first | rfl | simp [goodWord, Cond.onTables, Cond.keeps, Cond.steady]
theorem fld_good {a : String} {i : Nat} {x y z : String} : goodWord (Cond.fieldLink a i x y z) = true := by first | rfl | simp [goodWord, Cond.onTables, Cond.keeps, Cond.steady]
theorem cst_good {a : String} {i : Nat} {x : Int32} : goodWord (Cond.constant a i x) = true := by first | rfl | simp [goodWord, Cond.onTables, Cond.keeps, Cond.steady]
theorem cstd_good {a : String} {i : Nat} {x : UInt64} : goodWord (Cond.constantDouble a i x) = true := by first | rfl | simp [goodWord, Cond.onTables, Cond.keeps, Cond.steady]
theorem cstf_good {a : String} {i : Nat} {x : UInt32} : goodWord (Cond.constantFloat a i x) = true := by first | rfl | simp [goodWord, Cond.onTables, Cond.keeps, Cond.steady]
theorem cl_good {a C : String} {i : Nat} : goodWord (Cond.classLink a i C) = true := by first | rfl | simp [goodWord, Cond.onTables, Cond.keeps, Cond.steady]
theorem ins_good {C : String} {i : Nat} : goodWord (Cond.instantiable C i) = true := by first | rfl | simp [goodWord, Cond.onTables, Cond.keeps, Cond.steady]
theorem ac_good {t : FieldType} : goodWord (Cond.arrayClass t) = true := rfl
/-- behind a call -/
theorem callG {H : Heap} {locs : List Loc} {cells slots mc ms pc : Nat} {ls : Array Slot} {rest st0 : List Value} {a : Array Value} {r : Option Value} {σ1 : Mm}
    (hr : va_Run p l e R s m args below meth c H locs cells slots mc ms (F0 m pc ls st0) rest (QcG B b dC dI dA r σ1 a) (fun q => B ≤ q)) (hS : va_S (fun q => B ≤ q) s.heap H locs) (hz : H.size ≤ B + σ1.1)
    (kk : ∀ (H1 : Heap) (locs1 : List Loc), va_P (dC, dI) vwCl (wd B b dA σ1) H1 → va_S (fun q => B ≤ q) s.heap H1 locs1 → W p l e R s m args below meth c H1 locs1 (cells + mc) (slots + ms) Q (F0 m (pc + 3) ls ((r.map (vm B b)).toList ++ rest))) : W p l e R s m args below meth c H locs cells slots Q (F0 m pc ls st0) := by
  intro T hT X
  obtain ⟨v, st₀, t, T', L, h0, X', hL, e1, e2, ⟨hv, hz1, hP, hk⟩, st⟩ := hr T hT X
  cases hv
  rw [h0] at hk
  obtain ⟨t2, a1, b1⟩ := kk T'.heap (locs ++ L) (by rw [e1]; exact hP)
    ⟨by rw [e1, hz1]; exact Nat.le_trans hS.1 hz, fun q h1 h2 => by rw [e1, hk q (Nat.not_le.mp h2)]; exact hS.2.1 q h1 h2, fun q hq => by
      rcases List.mem_append.mp hq with h | h
      · exact hS.2.2 q h
      · exact hL q h⟩ T' rfl X'
  exact ⟨t2, st t2 a1, b1⟩
/-- the callee's start, at the caller's world -/
theorem preG {as : List Value} {σ : Mm} {H : Heap} {locs : List Loc} (hsz : H.size = B + σ.1) (hP : va_P (dC, dI) vwCl (wd B b dA σ) H) (hKs : KK dC dI dA s) (hS : va_S (fun q => B ≤ q) s.heap H locs) (hscr : ∀ len xs, scr = some (len, xs) → va_X b len xs s s.heap ∧ b < s.heap.size ∧ b < B) : ∀ U : State, U.heap = H → s.WarmedH U.vm → PcG B b dC dI dA scr as σ (as.map (vm B b)).toArray U :=
  fun U hU hW => ⟨rfl, ⟨by rw [hU]; exact hsz, by rw [hU]; exact hP, KK.warm hW hKs⟩, fun len xs e => by
    obtain ⟨g1, g2, g3⟩ := hscr len xs e
    rw [hU]
    exact ⟨va_X.moved hW.alike (g1.kept (hS.2.1 b g2 (Nat.not_le.mpr g3))), Nat.lt_of_lt_of_le g2 hS.1, g3⟩⟩
set_option maxHeartbeats 4000000 in
set_option maxRecDepth 10000 in
theorem step_snd (hF : FX p l R s m args meth c B b dC dI dA N0 dd NT y scr call)
    (hK : ∀ (pc : Nat) (L : Lc) (st : List Value) (σ : Mm) (H : Heap) (locs : List Loc) (cells slots : Nat) (ls : Array Slot), K pc L st σ → HF B b dC dI dA N0 s σ H locs cells slots → lv_has ls (mml y) (lvm B b L) → W p l e R s m args below meth c H locs cells slots Q (F0 m pc ls (st.map (vm B b))))
    (hQ : ∀ (pc : Nat) (σ : Mm) (H : Heap) (locs : List Loc) (cells slots : Nat) (ls : Array Slot) (v : Option Value), Q1 v σ → RetOk y pc v → HF B b dC dI dA N0 s σ H locs cells slots → W p l e R s m args below meth c H locs cells slots Q (F0 m pc ls (v.toList.map (vm B b))))
    {pc : Nat} {L : Lc} {st : List Value} {σ : Mm} {H : Heap} {locs : List Loc} {cells slots : Nat} {ls : Array Slot} (h : stepP dd NT call scr y K Q1 pc L st σ) (hH : HF B b dC dI dA N0 s σ H locs cells slots) (hl : lv_has ls (mml y) (lvm B b L)) :
    W p l e R s m args below meth c H locs cells slots Q (F0 m pc ls (st.map (vm B b))) := by
  obtain ⟨hx, hb, hml, hown, hini, hyN, hts, hRf, hRl, hRc, hRs, hKs, hhs, hscr, hcall⟩ := hF
  refine W_size hhs hH (fun hsz => ?_)
  obtain ⟨hP, hS, hc, hz⟩ := id hH
  have hD := wd_D (B := B) (b := b) (dA := dA) σ
  have hA : ∀ q : Nat, s.heap.size ≤ q → (fun q => B ≤ q) q := fun q h => by dsimp only; omega
  unfold stepP at h
  cases hT : TB y pc with
  | none => rw [hT] at h; exact h.elim
  | some q =>
  obtain ⟨i, n⟩ := q
  rw [hT] at h
  have hd := TB_ok hyN hT
  cases i <;> first | exact False.elim h | skip
  case aload_n k =>
    obtain ⟨rfl, v, hv, hr, hk⟩ := h
    cases v <;> first | (cases hr; done) | exact lv_aload_n hx hb hd rfl (lv_lk hl hv) (hK _ _ _ _ _ _ _ _ _ hk hH hl)
  case iload_n k => obtain ⟨rfl, v, hv, hk⟩ := h; exact lv_iload_n hx hb hd rfl (lv_lk hl hv) (hK _ _ _ _ _ _ _ _ _ hk hH hl)
  case iload k => obtain ⟨rfl, v, hv, hk⟩ := h; exact lv_iload hx hb hd (lv_lk hl hv) (hK _ _ _ _ _ _ _ _ _ hk hH hl)
  case fload_n k => obtain ⟨rfl, v, hv, hk⟩ := h; exact lv_fload_n hx hb hd rfl (lv_lk hl hv) (hK _ _ _ _ _ _ _ _ _ hk hH hl)
  case dload_n k => obtain ⟨rfl, v, hv, hk⟩ := h; exact lv_dload_n hx hb hd rfl (lv_lk hl hv) (hK _ _ _ _ _ _ _ _ _ hk hH hl)
  case dload k => obtain ⟨rfl, v, hv, hk⟩ := h; exact lv_dload hx hb hd (lv_lk hl hv) (hK _ _ _ _ _ _ _ _ _ hk hH hl)
  case istore_n k => obtain ⟨rfl, hlt, v, r, rfl, hk⟩ := h; exact lv_istore_n hx hb hd rfl hl hlt (st1_vm L k (.int v)) (fun ls' hl' => hK _ _ _ _ _ _ _ _ _ hk hH hl')
  case istore k => obtain ⟨rfl, hlt, v, r, rfl, hk⟩ := h; exact lv_istore hx hb hd hl hlt (st1_vm L k (.int v)) (fun ls' hl' => hK _ _ _ _ _ _ _ _ _ hk hH hl')
  case astore_n k => obtain ⟨rfl, hlt, v, r, rfl, hk⟩ := h; exact lv_astore_n hx hb hd rfl hl hlt (st1_vm L k (.ref v)) (fun ls' hl' => hK _ _ _ _ _ _ _ _ _ hk hH hl')
  case fstore_n k => obtain ⟨rfl, hlt, v, r, rfl, hk⟩ := h; exact lv_fstore_n hx hb hd rfl hl hlt (st1_vm L k (.float v)) (fun ls' hl' => hK _ _ _ _ _ _ _ _ _ hk hH hl')
  case dstore k => obtain ⟨rfl, hlt, v, r, rfl, hk⟩ := h; exact lv_dstore hx hb hd hl hlt (st2_vm L k (.double v)) (fun ls' hl' => hK _ _ _ _ _ _ _ _ _ hk hH hl')
  case iinc k v =>
    obtain ⟨rfl, hlt, x, hv, hk⟩ := h
    obtain ⟨j, hj⟩ := List.getElem?_of_mem (List.mem_map.mpr ⟨(k, .int x), lk_mem hv, rfl⟩ : ((k, Value.int x) : Nat × Value) ∈ lvm B b L)
    exact lv_iinc hx hb hd hl hj rfl hlt (st1_vm L k (.int (x + Int32.ofInt v))) (fun ls' hl' => hK _ _ _ _ _ _ _ _ _ hk hH hl')
  case iconst v => obtain ⟨rfl, hk⟩ := h; exact lv_iconst hx hb hd rfl (hK _ _ _ _ _ _ _ _ _ hk hH hl)
  case bipush v => obtain ⟨rfl, hk⟩ := h; exact lv_bipush hx hb hd rfl (hK _ _ _ _ _ _ _ _ _ hk hH hl)
  case sipush v => obtain ⟨rfl, hk⟩ := h; exact lv_sipush hx hb hd rfl (hK _ _ _ _ _ _ _ _ _ hk hH hl)
  case ldc ix =>
    obtain ⟨rfl, ⟨x, hv, hk⟩ | ⟨x, hv, hk⟩⟩ := h
    · exact lv_ldc hx hb hown (hts _ (mem_WS (cst_in hv) cst_good)) hd (hK _ _ _ _ _ _ _ _ _ hk hH hl)
    · exact lv_ldcf hx hb hown (hts _ (mem_WS (cst_in hv) cstf_good)) hd (hK _ _ _ _ _ _ _ _ _ hk hH hl)
  case ldc_w ix => obtain ⟨rfl, x, hv, hk⟩ := h; exact lv_ldcw hx hb hown (hts _ (mem_WS (cst_in hv) cst_good)) hd (hK _ _ _ _ _ _ _ _ _ hk hH hl)
  case ldc2_w ix => obtain ⟨rfl, x, hv, hk⟩ := h; exact lv_ldc2d hx hb hown (hts _ (mem_WS (cst_in hv) cstd_good)) hd (hK _ _ _ _ _ _ _ _ _ hk hH hl)
  case fconst k =>
    obtain ⟨rfl, ⟨rfl, hk⟩ | ⟨rfl, hk⟩ | ⟨rfl, hk⟩⟩ := h
    · exact lv_fconst0 hx hb hd (hK _ _ _ _ _ _ _ _ _ hk hH hl)
    · exact lv_fconst1 hx hb hd (hK _ _ _ _ _ _ _ _ _ hk hH hl)
    · exact lv_fconst2 hx hb hd (hK _ _ _ _ _ _ _ _ _ hk hH hl)
  case dconst k =>
    obtain ⟨rfl, ⟨rfl, hk⟩ | ⟨rfl, hk⟩⟩ := h
    · exact lv_dconst0 hx hb hd (hK _ _ _ _ _ _ _ _ _ hk hH hl)
    · exact lv_dconst1 hx hb hd (hK _ _ _ _ _ _ _ _ _ hk hH hl)
  case iadd => obtain ⟨rfl, a1, b1, r, rfl, hk⟩ := h; exact lv_iadd hx hb hd (hK _ _ _ _ _ _ _ _ _ hk hH hl)
  case isub => obtain ⟨rfl, a1, b1, r, rfl, hk⟩ := h; exact lv_isub hx hb hd (hK _ _ _ _ _ _ _ _ _ hk hH hl)
  case imul => obtain ⟨rfl, a1, b1, r, rfl, hk⟩ := h; exact lv_imul hx hb hd (hK _ _ _ _ _ _ _ _ _ hk hH hl)
  case irem => obtain ⟨rfl, a1, b1, r, rfl, hne, hk⟩ := h; exact lv_irem hx hb hd hne (hK _ _ _ _ _ _ _ _ _ hk hH hl)
  case ishr => obtain ⟨rfl, a1, b1, r, rfl, hk⟩ := h; exact lv_ishr hx hb hd (hK _ _ _ _ _ _ _ _ _ hk hH hl)
  case iand => obtain ⟨rfl, a1, b1, r, rfl, hk⟩ := h; exact lv_iand hx hb hd (hK _ _ _ _ _ _ _ _ _ hk hH hl)
  case ior => obtain ⟨rfl, a1, b1, r, rfl, hk⟩ := h; exact lv_ior hx hb hd (hK _ _ _ _ _ _ _ _ _ hk hH hl)
  case ixor => obtain ⟨rfl, a1, b1, r, rfl, hk⟩ := h; exact lv_ixor hx hb hd (hK _ _ _ _ _ _ _ _ _ hk hH hl)
  case ishl => obtain ⟨rfl, a1, b1, r, rfl, hk⟩ := h; exact lv_ishl hx hb hd (hK _ _ _ _ _ _ _ _ _ hk hH hl)
  case iushr => obtain ⟨rfl, a1, b1, r, rfl, hk⟩ := h; exact lv_iushr hx hb hd rfl (hK _ _ _ _ _ _ _ _ _ hk hH hl)
  case i2d => obtain ⟨rfl, a1, r, rfl, hk⟩ := h; exact lv_i2d hx hb hd (hK _ _ _ _ _ _ _ _ _ hk hH hl)
  case f2i => obtain ⟨rfl, a1, r, rfl, hk⟩ := h; exact lv_f2i hx hb hd (hK _ _ _ _ _ _ _ _ _ hk hH hl)
  case d2f => obtain ⟨rfl, a1, r, rfl, hn, hk⟩ := h; exact lv_d2f hx hb hd hn (hK _ _ _ _ _ _ _ _ _ hk hH hl)
  case dadd => obtain ⟨rfl, a1, b1, r, rfl, hn, hk⟩ := h; exact lv_dadd hx hb hd hn (hK _ _ _ _ _ _ _ _ _ hk hH hl)
  case ddiv => obtain ⟨rfl, a1, b1, r, rfl, hn, hk⟩ := h; exact lv_ddiv hx hb hd hn (hK _ _ _ _ _ _ _ _ _ hk hH hl)
  case fsub => obtain ⟨rfl, a1, b1, r, rfl, hn, hk⟩ := h; exact lv_fsub hx hb hd hn (hK _ _ _ _ _ _ _ _ _ hk hH hl)
  case fmul => obtain ⟨rfl, a1, b1, r, rfl, hn, hk⟩ := h; exact lv_fmul hx hb hd hn (hK _ _ _ _ _ _ _ _ _ hk hH hl)
  case fdiv => obtain ⟨rfl, a1, b1, r, rfl, hn, hk⟩ := h; exact lv_fdiv hx hb hd hn (hK _ _ _ _ _ _ _ _ _ hk hH hl)
  case fcmp op => obtain ⟨rfl, a1, b1, r, rfl, hk⟩ := h; exact lv_fcmp hx hb hd (hK _ _ _ _ _ _ _ _ _ hk hH hl)
  case dcmp op => obtain ⟨rfl, a1, b1, r, rfl, hk⟩ := h; exact lv_dcmp hx hb hd (hK _ _ _ _ _ _ _ _ _ hk hH hl)
  case dup => obtain ⟨rfl, v, r, rfl, hv, hk⟩ := h; exact lv_dup hx hb hd (by rw [vm_cat]; exact hv) (hK _ _ _ _ _ _ _ _ _ hk hH hl)
  case dup2 => obtain ⟨rfl, v, w, r, rfl, hv, hw, hk⟩ := h; exact lv_dup2_11 hx hb hd (by rw [vm_cat]; exact hv) (by rw [vm_cat]; exact hw) (hK _ _ _ _ _ _ _ _ _ hk hH hl)
  case ifCond q off =>
    obtain ⟨rfl, ht, x, r, rfl, k1, k2⟩ := h
    cases q
    · exact lv_if_eq hx hb hd ht (fun z => hK _ _ _ _ _ _ _ _ _ (k1 z) hH hl) (fun z => hK _ _ _ _ _ _ _ _ _ (k2 z) hH hl)
    · exact lv_if_ne hx hb hd ht (fun z => hK _ _ _ _ _ _ _ _ _ (k1 z) hH hl) (fun z => hK _ _ _ _ _ _ _ _ _ (k2 (by simpa [cnd] using z)) hH hl)
    · exact lv_if_lt hx hb hd ht (fun z => hK _ _ _ _ _ _ _ _ _ (k1 z) hH hl) (fun z => hK _ _ _ _ _ _ _ _ _ (k2 z) hH hl)
    · exact lv_if_ge hx hb hd ht (fun z => hK _ _ _ _ _ _ _ _ _ (k1 z) hH hl) (fun z => hK _ _ _ _ _ _ _ _ _ (k2 (by first | exact z | simpa [cnd] using z)) hH hl)
    · exact lv_if_gt hx hb hd ht (fun z => hK _ _ _ _ _ _ _ _ _ (k1 z) hH hl) (fun z => hK _ _ _ _ _ _ _ _ _ (k2 (by first | exact z | simpa [cnd] using z)) hH hl)
    · exact lv_if_le hx hb hd ht (fun z => hK _ _ _ _ _ _ _ _ _ (k1 z) hH hl) (fun z => hK _ _ _ _ _ _ _ _ _ (k2 (by first | exact z | simpa [cnd] using z)) hH hl)
  case if_icmp q off =>
    obtain ⟨rfl, ht, a1, b1, r, rfl, k1, k2⟩ := h
    cases q
    · exact lv_icmp_eq hx hb hd ht (fun z => hK _ _ _ _ _ _ _ _ _ (k1 z) hH hl) (fun z => hK _ _ _ _ _ _ _ _ _ (k2 z) hH hl)
    · exact lv_icmp_ne hx hb hd ht (fun z => hK _ _ _ _ _ _ _ _ _ (k1 z) hH hl) (fun z => hK _ _ _ _ _ _ _ _ _ (k2 (by simpa [cnd] using z)) hH hl)
    · exact lv_icmp_lt hx hb hd ht (fun z => hK _ _ _ _ _ _ _ _ _ (k1 z) hH hl) (fun z => hK _ _ _ _ _ _ _ _ _ (k2 z) hH hl)
    · exact lv_icmp_ge hx hb hd ht (fun z => hK _ _ _ _ _ _ _ _ _ (k1 z) hH hl) (fun z => hK _ _ _ _ _ _ _ _ _ (k2 (by first | exact z | simpa [cnd] using z)) hH hl)
    · exact lv_icmp_gt hx hb hd ht (fun z => hK _ _ _ _ _ _ _ _ _ (k1 z) hH hl) (fun z => hK _ _ _ _ _ _ _ _ _ (k2 (by first | exact z | simpa [cnd] using z)) hH hl)
    · exact lv_icmp_le hx hb hd ht (fun z => hK _ _ _ _ _ _ _ _ _ (k1 z) hH hl) (fun z => hK _ _ _ _ _ _ _ _ _ (k2 (by first | exact z | simpa [cnd] using z)) hH hl)
  case ifnull off => obtain ⟨rfl, cc, r, rfl, hk⟩ := h; exact lv_ifnull hx hb hd (hK _ _ _ _ _ _ _ _ _ hk hH hl)
  case goto off => obtain ⟨rfl, ht, hk⟩ := h; exact lv_goto hx hb hd ht (hK _ _ _ _ _ _ _ _ _ hk hH hl)
  case tableswitch d lo hi offs =>
    obtain ⟨x, r, rfl, k1, k2⟩ := h
    by_cases hr : x.toInt < lo ∨ hi < x.toInt
    · obtain ⟨ht, hk⟩ := k1 hr
      exact lv_tableOut hx hb hd hr ht (hK _ _ _ _ _ _ _ _ _ hk hH hl)
    · obtain ⟨off, ho, ht, hk⟩ := k2 hr
      exact lv_tableIn hx hb hd (fun z => hr (Or.inl z)) (fun z => hr (Or.inr z)) ho ht (hK _ _ _ _ _ _ _ _ _ hk hH hl)
  case lookupswitch d ps => obtain ⟨ho, x, r, rfl, ht, hk⟩ := h; exact lv_lookup hx hb hd ho rfl ht (hK _ _ _ _ _ _ _ _ _ hk hH hl)
  case ireturn => obtain ⟨rfl, x, rfl, hr, hk⟩ := h; exact hQ _ _ _ _ _ _ _ (some (.int x)) hk ⟨hd, hr⟩ hH
  case dreturn => obtain ⟨rfl, x, rfl, hr, hk⟩ := h; exact hQ _ _ _ _ _ _ _ (some (.double x)) hk ⟨hd, hr⟩ hH
  case return_ => obtain ⟨rfl, rfl, hr, hk⟩ := h; exact hQ _ _ _ _ _ _ _ none hk ⟨hd, hr⟩ hH
  case getfield ix =>
    obtain ⟨rfl, cc, r, ci, k, rfl, hf, hc1, hs, hk, hk2⟩ := h
    obtain ⟨w, hr, hn⟩ := nf_some hk
    obtain ⟨h1, h2, h3, h4, h5, h6, h7⟩ := cl_ok hr
    have hw := fld_in hf
    simp only [wFld, hr] at hw
    exact va_get (D := (dC, dI)) (cl := vwCl) (ci := ci) (C := w.1) (T := w.2.1) (N := w.2.2) hx hb hts h1 hown hKs.1 hP cc (by rw [wd_get hc1, ent_o hs]) hr k (hn ▸ hk) (hts _ (mem_WS hw fld_good)) (fun x hx => by rw [h7 k (hn ▸ hk)] at hx; exact hx) (v := vm B b (fv σ cc ci k)) (by simp [hk]) hd (hK _ _ _ _ _ _ _ _ _ hk2 hH hl)
  case putfield ix =>
    obtain ⟨rfl, v, cc, r, ci, k, rfl, hf, hc1, hs, hk, hfin, hk2⟩ := h
    obtain ⟨w, hr, hn⟩ := nf_some hk
    obtain ⟨h1, h2, h3, h4, h5, h6, h7⟩ := cl_ok hr
    have hw := fld_in hf
    simp only [wFld, hr] at hw
    have hent : (wd B b dA σ)[cc]? = some (B + cc, .inr (ci, (List.range (nf ci)).map (fun k => vm B b (fv σ cc ci k)))) := by rw [wd_get hc1, ent_o hs]
    have key : ∀ (v1 : Value), vm B b v = v1 → narrow (tyOf ci k) v1 = v1 → fits (tyOf ci k) v1 = true → (∀ (H1 : Heap) (locs1 : List Loc), va_P (dC, dI) vwCl ((wd B b dA σ).set cc (B + cc, .inr (ci, ((List.range (nf ci)).map (fun k => vm B b (fv σ cc ci k))).set k v1))) H1 → va_S (fun q => B ≤ q) s.heap H1 locs1 → W p l e R s m args below meth c H1 locs1 cells slots Q (F0 m (pc + 3) ls (r.map (vm B b)))) → W p l e R s m args below meth c H locs cells slots Q (F0 m pc ls ((v :: .ref cc :: r).map (vm B b))) := by
      intro v1 e1 hn1 hf1 kk
      subst e1
      cases hfq : fin ci k with
      | false =>
        exact va_put (D := (dC, dI)) (cl := vwCl) (ci := ci) (C := w.1) (T := w.2.1) (N := w.2.2) hx hb hts h1 (tyOf ci) h2 h3 hown hKs.1 hP hD hS cc hent hr k (hn ▸ hk) (hts _ (mem_WS hw fld_good)) (fun x hx => by rw [h7 k (hn ▸ hk)] at hx; exact hx) (by rw [← h6]; exact hfq) (h2 k (hn ▸ hk)) hn1 hf1 (by simp [hk]) hd (fun H1 locs1 g1 _ g3 => kk H1 locs1 g1 g3)
      | true =>
        obtain ⟨hin, hdc⟩ := hfin hfq
        exact va_putF (D := (dC, dI)) (cl := vwCl) (ci := ci) (C := w.1) (T := w.2.1) (N := w.2.2) hx hb hts h1 (tyOf ci) h2 h3 hown hKs.1 hP hD hS cc hent hr k (hn ▸ hk) (hts _ (mem_WS hw fld_good)) (fun x hx => by rw [h7 k (hn ▸ hk)] at hx; exact hx) (by rw [← h6]; exact hfq) (hini hin) (by rw [h7 k (hn ▸ hk), h4, hdc]) (h2 k (hn ▸ hk)) hn1 hf1 (by simp [hk]) hd (fun H1 locs1 g1 _ g3 => kk H1 locs1 g1 g3)
    rcases hk2 with ⟨x, rfl, hq, hk2⟩ | ⟨x, rfl, hq, hx1, hk2⟩ | ⟨a, rfl, hq, hk2⟩
    · refine key (.int x) rfl (by rw [fkd0 hq]; rfl) (by rw [fkd0 hq]; rfl) (fun H1 locs1 g1 g2 => ?_)
      rw [wd_setI hs (by rw [hq]; decide)] at g1
      exact hK _ _ _ _ _ _ _ _ _ hk2 ⟨g1, g2, hc, hz⟩ hl
    · refine key (.int x) rfl (by rw [fkd1 hq]; rcases hx1 with rfl | rfl <;> rfl) (by rw [fkd1 hq]; rcases hx1 with rfl | rfl <;> rfl) (fun H1 locs1 g1 g2 => ?_)
      rw [wd_setI hs (by rw [hq]; decide)] at g1
      exact hK _ _ _ _ _ _ _ _ _ hk2 ⟨g1, g2, hc, hz⟩ hl
    · refine key (.ref (B + a)) rfl (fkd2 hq _).1 (fkd2 hq _).2 (fun H1 locs1 g1 g2 => ?_)
      rw [wd_setPo hs hq] at g1
      exact hK _ _ _ _ _ _ _ _ _ hk2 ⟨g1, g2, hc, hz⟩ hl
  case iaload =>
    obtain ⟨rfl, ⟨i, cc, r, rfl, hc1, hs, hin, hk⟩ | ⟨i, a, r, len, xs, rfl, hsc, hin, hk⟩⟩ := h
    · exact va_iald hx hb hKs.1 hP cc 0 (by rw [wd_get hc1, ent_i hs (Or.inl rfl)]) rfl hin hd (hK _ _ _ _ _ _ _ _ _ hk hH hl)
    · obtain ⟨g1, g2, g3⟩ := hscr len xs hsc
      exact va_sld hx hb g1 g2 (Nat.not_le.mpr g3) hS hin hd (hK _ _ _ _ _ _ _ _ _ hk hH hl)
  case arraylength =>
    obtain ⟨rfl, a, r, len, xs, rfl, hsc, hk⟩ := h
    obtain ⟨g1, g2, g3⟩ := hscr len xs hsc
    exact va_slen hx hb g1 g2 (Nat.not_le.mpr g3) hS hd (hK _ _ _ _ _ _ _ _ _ hk hH hl)
  case aaload =>
    obtain ⟨rfl, i, cc, r, rfl, hc1, hs, hin, hk⟩ := h
    have h9 := hK _ _ _ _ _ _ _ _ _ hk hH hl
    rw [List.map_cons, vm_vrf] at h9
    exact va_aldq hx hb hKs.1 hP cc 2 (by rw [wd_get hc1, ent_q hs]) rfl hin hd h9
  case iastore =>
    obtain ⟨rfl, x, i, cc, r, rfl, hc1, hs, hin, hk⟩ := h
    refine va_iast hx hb hKs.1 hP hD hS cc 0 (by rw [wd_get hc1, ent_i hs (Or.inl rfl)]) rfl hin hd (fun H1 locs1 g1 _ g3 => ?_)
    rw [wd_setA hs (Or.inl rfl)] at g1
    exact hK _ _ _ _ _ _ _ _ _ hk ⟨g1, g3, hc, hz⟩ hl
  case aastore =>
    obtain ⟨rfl, a, i, cc, r, rfl, hc1, hs, hin, ha, hsa, hk⟩ := h
    refine va_astq hx hb hKs.1 hP hD hS cc 2 a 2 (r := (RX2, TX2, 15)) (by rw [wd_get hc1, ent_q hs]) rfl (by rw [wd_get ha, ent_o hsa]) rfl hin hd (fun H1 locs1 g1 _ g3 => ?_)
    rw [wd_setQ hs] at g1
    exact hK _ _ _ _ _ _ _ _ _ hk ⟨g1, g3, hc, hz⟩ hl
  case newarray t =>
    obtain ⟨rfl, z, r, rfl, ht, hsh, hneg, hsmall, hNT, hk⟩ := h
    have hszc : szc σ.1 = z.toNatClampNeg := by
      unfold szc; rw [hsh]
      cases t <;> first | rfl | (exfalso; revert ht; decide)
    have hcl : cells + 1 ≤ R.cells := by omega
    have hsl : slots + z.toNatClampNeg ≤ R.slots := by
      have h1 := SZ_mono (show σ.1 + 1 ≤ NT from hNT)
      rw [SZ_succ, hszc] at h1
      omega
    have hfin : HF B b dC dI dA N0 s (alc σ) H locs (cells + 1) (slots + z.toNatClampNeg) ∨ True := Or.inr trivial
    have hct : cells + 1 + N0 = (alc σ).1 := by show _ = σ.1 + 1; omega
    have hst : slots + z.toNatClampNeg + SZ N0 = SZ (alc σ).1 := by show _ = SZ (σ.1 + 1); rw [SZ_succ, hszc]; omega
    have key : ∀ (ty : FieldType) (k : Nat) (a0 : vp_A), newarray.typeOf t = ty → (Cond.arrayClass ty).before args s = true → (∀ cA : ClassId, vp_cell cA a0 = arrV cA z.toNatClampNeg (fun _ => defaultValue ty)) → z.toNatClampNeg * componentBytes ty ≤ 536870912 → (∀ cA, va_RA s cA ty → cA = dA k) → ent B b dA (alc σ) σ.1 = .inl (dA k, a0) → W p l e R s m args below meth c H locs cells slots Q (F0 m pc ls ((.int z :: r).map (vm B b))) := by
      intro ty k a0 hty harr ha hby hra hen
      subst hty
      refine va_newa hx hb harr rfl hKs.1 hP hD hS hA ha hneg rfl hby hcl hsl hd (fun q cA H1 gK gP gD gS => ?_)
      refine W_new hhs hc gP gD (fun hq => ?_)
      subst hq
      have hcA := hra cA (gK.2 3 (cA, newarray.typeOf t) rfl).2
      subst hcA
      rw [wd_alc hen] at gP
      exact hK _ _ _ _ _ _ _ _ _ hk ⟨gP, gS, hct, hst⟩ hl
    cases t <;> first | (exfalso; revert ht; decide) | skip
    · exact key .char 2 (z.toNatClampNeg, .inl (fun _ => 0)) rfl (hts _ (mem_WS (in_X (by decide)) ac_good)) (fun cA => rfl) (by show _ * 2 ≤ _; omega) (fun cA hc => Option.some.inj (hc.symm.trans (hKs.1.2 1 _ rfl).2)) (by rw [ent_i (t := 2) (by rw [hsh]; rfl) (Or.inr (Or.inl rfl)), hsh, alc_row.1])
    · exact key .int 1 (z.toNatClampNeg, .inl (fun _ => 0)) rfl (hts _ (mem_WS (in_X (by decide)) ac_good)) (fun cA => rfl) (by show _ * 4 ≤ _; omega) (fun cA hc => Option.some.inj (hc.symm.trans (hKs.1.2 0 _ rfl).2)) (by rw [ent_i (t := 1) (by rw [hsh]; rfl) (Or.inl rfl), hsh, alc_row.1])
  case anewarray ix =>
    obtain ⟨rfl, z, r, rfl, hnw, hsh, hneg, hsmall, hNT, hk⟩ := h
    have hszc : szc σ.1 = z.toNatClampNeg := by unfold szc; rw [hsh]; rfl
    have hcl : cells + 1 ≤ R.cells := by omega
    have hsl : slots + z.toNatClampNeg ≤ R.slots := by
      have h1 := SZ_mono (show σ.1 + 1 ≤ NT from hNT)
      rw [SZ_succ, hszc] at h1
      omega
    have hct : cells + 1 + N0 = (alc σ).1 := by show _ = σ.1 + 1; omega
    have hst : slots + z.toNatClampNeg + SZ N0 = SZ (alc σ).1 := by show _ = SZ (σ.1 + 1); rw [SZ_succ, hszc]; omega
    have hw := nwc_in hnw (.classLink (CN (mown y)) ix RX2) List.mem_cons_self
    refine va_newq hx hb hown (hts _ (mem_WS hw cl_good)) hKs.2.1 hKs.1 hP hD hS hA hneg rfl (by omega) hcl hsl hd (fun q cA H1 gK gP gD gS => ?_)
    refine W_new hhs hc gP gD (fun hq => ?_)
    subst hq
    have hcA : cA = dA 5 := by
      obtain ⟨_, _, _, _, _, e1⟩ := (gK.2 3 (cA, .object RX2) rfl).2
      obtain ⟨_, _, _, _, _, e2⟩ := (hKs.1.2 2 (dA 5, .object RX2) rfl).2
      exact Option.some.inj (e1.symm.trans e2)
    subst hcA
    rw [wd_alc (by rw [ent_q (by rw [hsh]), hsh, alc_row.2.1]; rfl)] at gP
    exact hK _ _ _ _ _ _ _ _ _ hk ⟨gP, gS, hct, hst⟩ hl
  case new ix =>
    obtain ⟨rfl, ci, hnw, hsh, hNT, hk⟩ := h
    obtain ⟨w, hw, hwn, hn⟩ := cl_some (nk_lt _ _ (find_in hnw))
    obtain ⟨h1, h2, h3, h4, h5, h6, h7⟩ := cl_ok hw
    have hci : ci < 4 := nk_lt _ _ (find_in hnw)
    have hwd := nwc_in hnw
    simp only [wNew, hw] at hwd
    have hszc : szc σ.1 = w.2.2 := by unfold szc; rw [hsh]; exact hn
    have hcl : cells + 1 ≤ R.cells := by omega
    have hsl : slots + w.2.2 ≤ R.slots := by
      have h1 := SZ_mono (show σ.1 + 1 ≤ NT from hNT)
      rw [SZ_succ, hszc] at h1
      omega
    have hct : cells + 1 + N0 = (alc σ).1 := by show _ = σ.1 + 1; omega
    have hst : slots + w.2.2 + SZ N0 = SZ (alc σ).1 := by show _ = SZ (σ.1 + 1); rw [SZ_succ, hszc]; omega
    refine va_new (D := (dC, dI)) (cl := vwCl) (ci := ci) (C := w.1) (T := w.2.1) (N := w.2.2) (fs := (List.range (nf ci)).map (fun k => vm B b (fv (alc σ) σ.1 ci k))) hx hb hts h1 (tyOf ci) h2 hown (hts _ (mem_WS (hwd _ List.mem_cons_self) cl_good)) (hts _ (mem_WS (hwd _ (List.mem_cons_of_mem _ List.mem_cons_self)) ins_good)) (hts _ (mem_WS (by rw [hwn]; exact in_init (by omega)) init_good)) hKs.1 hP hD hS hA hw (fun j hj => ?_) hcl hsl hd (fun q H1 gP gD gS => ?_)
    · rw [def_fv (B := B) (b := b) (σ := σ) (fkd_le ci hci j (hn ▸ hj))]
      simp [vp_V, hn, hj]
    · refine W_new hhs hc gP gD (fun hq => ?_)
      subst hq
      rw [wd_alc (ent_o hsh)] at gP
      exact hK _ _ _ _ _ _ _ _ _ hk ⟨gP, gS, hct, hst⟩ hl
  case invokevirtual ix =>
    obtain ⟨rfl, y1, as, cc, r, v, σ1, hlk, rfl, hlen, hc1, hs, hst, hcl, hN1, hk⟩ := h
    obtain ⟨hmono, hy1, d, hdd, hM⟩ := hcall _ _ _ _ _ hcl
    obtain ⟨f1, f2, f3, f4, f5⟩ := mt_facts y1 (Nat.lt_trans hy1 (by decide))
    have hw := lnk_in hlk
    obtain ⟨w, hwc, hwn, -⟩ := cl_some (show mown y1 < 4 by have := SH_lt cc (by rw [hs]); rw [hs] at this; exact this)
    have hSZ := SZ_mono hmono
    have hSZ2 := SZ_mono hN1
    have cb : CallB R s args (CN (mown y)) ix (mnm y1) (mcd y1) (mml y1) (mrt y1) (wsG y1) ({ frames := d, cells := σ1.1 - σ.1, slots := SZ σ1.1 - SZ σ.1, locals := 35 * d }) (σ1.1 - σ.1) (SZ σ1.1 - SZ σ.1) (mna y1) :=
      callB_of (mna y1) hts (wsG_in hy1) rfl rfl rfl (by rw [f1]; exact hts _ (mem_WS (in_init f5) init_good)) (hts _ (mem_WS (hw _ List.mem_cons_self) link_good)) f3 (show d + 1 ≤ R.frames ∧ 8 + (mml y1 + 11) + 35 * d ≤ R.locals by omega)
    rw [List.map_append, List.map_reverse, List.map_cons]
    refine callG (rest := r.map (vm B b)) (va_runV (C := (mnm y1).cls) (own := CN (mown y)) (b := B + cc) (As := as.map (vm B b)) (rest := r.map (vm B b)) ⟨hx, hb, hml, hown, hts⟩ hM ⟨cb, hts _ (mem_WS (hw _ (List.mem_cons_of_mem _ List.mem_cons_self)) inst_good), hts _ (mem_WS (hw _ (List.mem_cons_of_mem _ (List.mem_cons_of_mem _ List.mem_cons_self))) sel_good)⟩ ⟨PcG_blind, ?_, preG hsz hP hKs hS hscr⟩ rfl (by rw [List.length_map]; exact hlen) hl.1 rfl (lv_room (by rw [stw_vm]; exact hst)) hd ⟨by omega, by omega⟩) hS (by omega) (fun H1 locs1 g1 g2 => ?_)
    · rw [f1, ← hwn]
      exact va_recv hKs.1 hP hwc (by rw [wd_get hc1, ent_o hs])
    · have h9 := hK _ _ _ _ _ _ _ _ _ hk (⟨g1, g2, by omega, by omega⟩ : HF B b dC dI dA N0 s σ1 H1 locs1 (cells + (σ1.1 - σ.1)) (slots + (SZ σ1.1 - SZ σ.1))) hl
      cases v <;> exact h9
  case invokestatic ix =>
    obtain ⟨rfl, ⟨y1, as, r, v, σ1, kd, hlk, hkd, rfl, hlen, hst, hcl, hN1, hk⟩ | ⟨z, dp, c1, sp, c0, r, hlk, rfl, hst, hdd, hc0, hc1, hs0, hs1, q1, q2, q3, q4, q5, hk⟩ | ⟨a, b1, r, y1, hlk, rfl, hst, hdd, hnt, hk⟩⟩ := h
    · obtain ⟨hmono, hy1, d, hdd, hM⟩ := hcall _ _ _ _ _ hcl
      obtain ⟨f1, f2, f3, f4, f5⟩ := mt_facts y1 (Nat.lt_trans hy1 (by decide))
      have hw := lnk_in hlk
      have hSZ := SZ_mono hmono
      have hSZ2 := SZ_mono hN1
      rw [List.map_append, List.map_reverse]
      have fin : ∀ (H1 : Heap) (locs1 : List Loc), va_P (dC, dI) vwCl (wd B b dA σ1) H1 → va_S (fun q => B ≤ q) s.heap H1 locs1 → W p l e R s m args below meth c H1 locs1 (cells + (σ1.1 - σ.1)) (slots + (SZ σ1.1 - SZ σ.1)) Q (F0 m (pc + 3) ls ((v.map (vm B b)).toList ++ r.map (vm B b))) := by
        intro H1 locs1 g1 g2
        have h9 := hK _ _ _ _ _ _ _ _ _ hk (⟨g1, g2, by omega, by omega⟩ : HF B b dC dI dA N0 s σ1 H1 locs1 (cells + (σ1.1 - σ.1)) (slots + (SZ σ1.1 - SZ σ.1))) hl
        cases v <;> exact h9
      rcases hkd with rfl | rfl
      · have cb : CallB R s args (CN (mown y)) ix (mnm y1) (mcd y1) (mml y1) (mrt y1) (wsG y1) ({ frames := d, cells := σ1.1 - σ.1, slots := SZ σ1.1 - SZ σ.1, locals := 35 * d }) (σ1.1 - σ.1) (SZ σ1.1 - SZ σ.1) (mna y1) :=
          callB_of (mna y1) hts (wsG_in hy1) rfl rfl rfl (by rw [f1]; exact hts _ (mem_WS (in_init f5) init_good)) (hts _ (mem_WS (hw _ List.mem_cons_self) link_good)) f3 (show d + 1 ≤ R.frames ∧ 8 + (mml y1 + 11) + 35 * d ≤ R.locals by omega)
        exact callG (rest := r.map (vm B b)) (va_runS (own := CN (mown y)) (As := as.map (vm B b)) (rest := r.map (vm B b)) ⟨hx, hb, hml, hown, hts⟩ hM ⟨cb, hts _ (mem_WS (hw _ (List.mem_cons_of_mem _ List.mem_cons_self)) stat_good)⟩ ⟨PcG_blind, preG hsz hP hKs hS hscr⟩ rfl (by rw [List.length_map]; exact hlen) hl.1 rfl (lv_room (by rw [stw_vm]; exact hst)) hd ⟨by omega, by omega⟩) hS (by omega) fin
      · have cb : va_CN R s args (CN (mown y)) ix (mnm y1) RX3 (mcd y1) (mml y1) (mrt y1) (wsG y1) ({ frames := d, cells := σ1.1 - σ.1, slots := SZ σ1.1 - SZ σ.1, locals := 35 * d }) (σ1.1 - σ.1) (SZ σ1.1 - SZ σ.1) (mna y1) :=
          va_cnB (mna y1) hts (wsG_in hy1) rfl rfl rfl (hKs.2.2 _ (NST_in (mt_facts y hyN).2.2.2.2 hlk (Or.inl rfl))) (by rw [f1]; exact hts _ (mem_WS (in_init f5) init_good)) f3 (show d + 1 ≤ R.frames ∧ 8 + (mml y1 + 11) + 35 * d ≤ R.locals by omega)
        exact callG (rest := r.map (vm B b)) (va_runSN (own := CN (mown y)) (As := as.map (vm B b)) (rest := r.map (vm B b)) ⟨hx, hb, hml, hown, hts⟩ hM ⟨cb, hts _ (mem_WS (hw _ (List.mem_cons_of_mem _ List.mem_cons_self)) stat_good), trivial⟩ ⟨PcG_blind, preG hsz hP hKs hS hscr⟩ rfl (by rw [List.length_map]; exact hlen) hl.1 rfl (lv_room (by rw [stw_vm]; exact hst)) hd ⟨by omega, by omega⟩) hS (by omega) fin
    · have hw := lnk_in hlk
      have hnw : nativeFrameWords "java/lang/System" "arraycopy" 5 + 11 ≤ 27 := by decide
      refine va_copyi hx hb (hml.trans hl.1.symm) hown (hts _ (mem_WS (hw _ List.mem_cons_self) link_good)) (hts _ (mem_WS (hw _ (List.mem_cons_of_mem _ List.mem_cons_self)) nat_good)) (hts _ (mem_WS (hw _ (List.mem_cons_of_mem _ (List.mem_cons_of_mem _ List.mem_cons_self))) stat_good)) (hts _ (mem_WS (in_init (c := 6) (by decide)) init_good)) hKs.1 hP hD hS c0 c1 0 0 (by rw [wd_get hc0, ent_i hs0 (Or.inl rfl)]) (by rw [wd_get hc1, ent_i hs1 (Or.inl rfl)]) rfl rfl rfl q1 q2 q3 q4 q5 (fun _ _ => rfl) (by omega) (by rw [stw_vm]; omega) hd (fun H1 locs1 g1 _ g3 => ?_)
      rw [wd_cpy hs1] at g1
      exact hK _ _ _ _ _ _ _ _ _ hk ⟨g1, g3, hc, hz⟩ hl
    · have hw := lnk_in hlk
      have hy1 : y1 = nJ9_max_7cf53 := (lk_init _ _ (find_in hlk)).2 rfl
      subst hy1
      obtain ⟨m1, m2, m3, m4⟩ := max_nm
      have hcode := mt_word (y := nJ9_max_7cf53) (by decide)
      rw [m1, m2, m3, m4] at hcode
      have hl1 := hw _ List.mem_cons_self
      have hl2 := hw _ (List.mem_cons_of_mem _ List.mem_cons_self)
      dsimp only at hl1 hl2
      rw [m1] at hl1 hl2
      exact va_mmax hx hb (hml.trans hl.1.symm) hown (hts _ (mem_WS hl1 link_good)) (hts _ (mem_WS hl2 stat_good)) (hts _ (mem_WS (in_init (c := 5) (by decide)) init_good)) (hts _ (mem_WS hcode (by first | rfl | simp [goodWord, Cond.onTables, Cond.keeps, Cond.steady]))) (by omega) (by rw [stw_vm]; omega) (by omega) (by have := SZ_mono hnt; omega) hd (hK _ _ _ _ _ _ _ _ _ hk hH hl)
  case invokespecial ix =>
    obtain ⟨rfl, ⟨y1, as, cc, r, σ1, kd, hlk, hkd, rfl, hlen, hst, hcl, hN1, hk⟩ | ⟨cc, r, hlk, rfl, hst, hdd, hk⟩⟩ := h
    · obtain ⟨hmono, hy1, d, hdd, hM⟩ := hcall _ _ _ _ _ hcl
      obtain ⟨f1, f2, f3, f4, f5⟩ := mt_facts y1 (Nat.lt_trans hy1 (by decide))
      have hw := lnk_in hlk
      have hSZ := SZ_mono hmono
      have hSZ2 := SZ_mono hN1
      obtain ⟨hr0, hnm1⟩ := (lk_init _ _ (find_in hlk)).1 (by rcases hkd with rfl | rfl <;> simp)
      dsimp only at hr0 hnm1
      rw [List.map_append, List.map_reverse, List.map_cons]
      have fin : ∀ (H1 : Heap) (locs1 : List Loc), va_P (dC, dI) vwCl (wd B b dA σ1) H1 → va_S (fun q => B ≤ q) s.heap H1 locs1 → W p l e R s m args below meth c H1 locs1 (cells + (σ1.1 - σ.1)) (slots + (SZ σ1.1 - SZ σ.1)) Q (F0 m (pc + 3) ls (((none : Option Value).map (vm B b)).toList ++ r.map (vm B b))) := by
        intro H1 locs1 g1 g2
        exact hK _ _ _ _ _ _ _ _ _ hk (⟨g1, g2, by omega, by omega⟩ : HF B b dC dI dA N0 s σ1 H1 locs1 (cells + (σ1.1 - σ.1)) (slots + (SZ σ1.1 - SZ σ.1))) hl
      rcases hkd with rfl | rfl
      · have cb : CallB R s args (CN (mown y)) ix (mnm y1) (mcd y1) (mml y1) none (wsG y1) ({ frames := d, cells := σ1.1 - σ.1, slots := SZ σ1.1 - SZ σ.1, locals := 35 * d }) (σ1.1 - σ.1) (SZ σ1.1 - SZ σ.1) (mna y1) :=
          callB_of (mna y1) hts (wsG_in hy1) (by unfold wsG; rw [hr0]) rfl rfl (by rw [f1]; exact hts _ (mem_WS (in_init f5) init_good)) (hts _ (mem_WS (hw _ List.mem_cons_self) link_good)) f3 (show d + 1 ≤ R.frames ∧ 8 + (mml y1 + 11) + 35 * d ≤ R.locals by omega)
        exact callG (rest := r.map (vm B b)) (va_runI (own := CN (mown y)) (b := B + cc) (As := as.map (vm B b)) (rest := r.map (vm B b)) ⟨hx, hb, hml, hown, hts⟩ hM ⟨cb, hnm1, hts _ (mem_WS (hw _ (List.mem_cons_of_mem _ List.mem_cons_self)) inst_good)⟩ ⟨PcG_blind, preG hsz hP hKs hS hscr⟩ rfl (by rw [List.length_map]; exact hlen) hl.1 rfl (lv_room (by rw [stw_vm]; exact hst)) hd ⟨by omega, by omega⟩) hS (by omega) fin
      · have cb : va_CN R s args (CN (mown y)) ix (mnm y1) RX3 (mcd y1) (mml y1) none (wsG y1) ({ frames := d, cells := σ1.1 - σ.1, slots := SZ σ1.1 - SZ σ.1, locals := 35 * d }) (σ1.1 - σ.1) (SZ σ1.1 - SZ σ.1) (mna y1) :=
          va_cnB (mna y1) hts (wsG_in hy1) (by unfold wsG; rw [hr0]) rfl rfl (hKs.2.2 _ (NST_in (mt_facts y hyN).2.2.2.2 hlk (Or.inr rfl))) (by rw [f1]; exact hts _ (mem_WS (in_init f5) init_good)) f3 (show d + 1 ≤ R.frames ∧ 8 + (mml y1 + 11) + 35 * d ≤ R.locals by omega)
        exact callG (rest := r.map (vm B b)) (va_runIN (own := CN (mown y)) (b := B + cc) (As := as.map (vm B b)) (rest := r.map (vm B b)) ⟨hx, hb, hml, hown, hts⟩ hM ⟨cb, hnm1, hts _ (mem_WS (hw _ (List.mem_cons_of_mem _ List.mem_cons_self)) inst_good)⟩ ⟨PcG_blind, preG hsz hP hKs hS hscr⟩ rfl (by rw [List.length_map]; exact hlen) hl.1 rfl (lv_room (by rw [stw_vm]; exact hst)) hd ⟨by omega, by omega⟩) hS (by omega) fin
    · have hw := lnk_in hlk
      refine W.objInit hx hb hown (hts _ (mem_WS (hw _ List.mem_cons_self) link_good)) (hts _ (mem_WS (hw _ (List.mem_cons_of_mem _ List.mem_cons_self)) inst_good)) (hts _ (mem_WS (in_X (by decide)) ocode_good)) rfl (hl.1.trans hml.symm) rfl hd (by omega) ?_ (hK _ _ _ _ _ _ _ _ _ hk hH hl)
      show 2 * 0 + _ + 12 ≤ _
      rw [stw_vm]
      omega
end SN

/-! the law's loop, its beginning, and the claim's walk -/
theorem mnd_self {a : V} {q : Nat} (hq : q < 2 ^ 20) (op : CmpOp) : Op.cmpValue (FP.dcmp (mnd a q) (mnd a q)) op = 0 := by
  unfold mnd
  by_cases c : a 1 = 1
  · rw [if_pos c, dq_self hq]; rfl
  · rw [if_neg c, show FP.dcmp (13830554455654793216 : UInt64) 13830554455654793216 = some .eq by decide +kernel]; rfl
theorem gt5 {L i : Nat} (hL : L ≤ 2560) (hi : i ≤ 2560) : (nI L - 5 < nI i) ↔ L < i + 5 := by
  have h1 := pk_sub_toInt (a := L) (b := 5) (by omega) (by decide)
  rw [Int32.lt_iff_toInt_lt, show (nI L - 5).toInt = (L : Int) - 5 from h1, nI_toInt (by omega)]; omega
section LR
variable {c i Lb : Nat} {xs : Nat → Int32} {M : Im} {h : Hm} {D : Dm} {A : Ab} {Q : Option Value → Im → Hm → Dm → Prop}
set_option maxRecDepth 100000 in
theorem LW_minutes (hL : Lb ≤ 2560) (hi : i + 5 ≤ Lb) (hc : c ≤ 512) (hI : IX M h A) (hJ : IM M D A) (hw : wfA c A) (k : ∀ M1 h1 D1 A1, IX M1 h1 A1 → IM M1 D1 A1 → wfA (c + 1) A1 → Ev 9 (some (Lb, xs)) 153 699 (Lw i) [] M1 h1 D1 Q) : Ev 9 (some (Lb, xs)) 153 622 (Lw i) [] M h D Q := by
  obtain ⟨n, h1⟩ := hw.1.1
  have ha : M 74 = A.1.1 := hJ.1.1
  refine ev_aload_n (n := 1) (v := .ref 0) (pc1 := 623) rfl rfl (TBof tbs_153 _ rfl) rfl ?_
  refine ev_callvD (pc1 := 626) (as := []) (r := []) (TBof tbs_153 _ rfl) rfl (lnkof mo_153 ln_9_99) rfl na_69 ltc_0 (sh_0.trans (by rw [mo_69])) (Nat.le_of_ble_eq_true rfl) (K := fun x M1 h1 D1 => x = mnd A.1.1 A.1.2 ∧ M1 = M ∧ h1 = h ∧ D1 = D) (tX_minutes (d := 8) hI.1 h1.a1 (q20 hc hw) ⟨rfl, rfl, rfl, rfl⟩) (fun x1 M1 h1 D1 ⟨e1, e2, e3, e4⟩ => ?_)
  subst e1 e2 e3 e4
  refine ev_dstore (pc1 := 628) (L1 := (4, .double (mnd A.1.1 A.1.2)) :: Lw i) (by rw [ml_153]; decide) rfl (TBof tbs_153 _ rfl) rfl ?_
  refine ev_aload_n (n := 2) (v := .ref 73) (pc1 := 629) rfl rfl (TBof tbs_153 _ rfl) rfl ?_
  refine ev_callvD (pc1 := 632) (as := []) (r := []) (TBof tbs_153 _ rfl) rfl (lnkof mo_153 ln_9_103) rfl na_143 ltc_73 (sh_73.trans (by rw [mo_143])) (Nat.le_of_ble_eq_true rfl) (K := fun x M2 h2 D2 => x = mnd A.1.1 A.1.2 ∧ M2 = M1 ∧ h2 = h1 ∧ D2 = D1) (tM_minutes (d := 7) hJ.1.2 (by rw [ha]; exact ⟨rfl, rfl, rfl, rfl⟩)) (fun x2 M2 h2 D2 ⟨e1, e2, e3, e4⟩ => ?_)
  subst e1 e2 e3 e4
  refine ev_dstore (pc1 := 634) (L1 := (6, .double (mnd A.1.1 A.1.2)) :: (4, .double (mnd A.1.1 A.1.2)) :: Lw i) (by rw [ml_153]; decide) rfl (TBof tbs_153 _ rfl) rfl ?_
  refine ev_dload (pc1 := 636) rfl (TBof tbs_153 _ rfl) rfl ?_
  refine ev_dload (pc1 := 638) rfl (TBof tbs_153 _ rfl) rfl ?_
  refine ev_dcmp (pc1 := 639) (TBof tbs_153 _ rfl) rfl ?_
  rw [mnd_self (q20 hc hw)]
  refine ev_if (pc1 := 642) (t := 660) (TBof tbs_153 _ rfl) (by decide) rfl (fun _ => ?_) (fun z => absurd rfl z)
  refine ev_goto (pc1 := 699) (TBof tbs_153 _ rfl) (by decide) ?_
  exact ev_le [2, 3, 4, 5] rfl rfl (k M2 h2 D2 A hI hJ hw.up)
set_option maxRecDepth 100000 in
set_option maxHeartbeats 4000000 in
theorem law_loop (hL : Lb ≤ 2560) (hQ : ∀ M h D, Q (some (.int 1)) M h D) : ∀ (m c : Nat) (M : Im) (h : Hm) (D : Dm) (A : Ab), Lb < 5 * c + m → 5 * c ≤ Lb → IX M h A → IM M D A → wfA c A → Ev 9 (some (Lb, xs)) 153 18 (Lw (5 * c)) [] M h D Q
  | 0, c, M, h, D, A, hm, hle, hI, hJ, hw => absurd hm (by omega)
  | m + 1, c, M, h, D, A, hm, hle, hI, hJ, hw => by
    refine ev_iload_n (pc1 := 19) rfl (TBof tbs_153 _ rfl) rfl ?_
    refine ev_aload_n (n := 0) (v := .retAddr 0) (pc1 := 20) rfl rfl (TBof tbs_153 _ rfl) rfl ?_
    refine ev_slen (pc1 := 21) (TBof tbs_153 _ rfl) rfl rfl ?_
    refine ev_iconst (pc1 := 22) (x := 5) (by decide) (TBof tbs_153 _ rfl) rfl ?_
    refine ev_isub (pc1 := 23) (TBof tbs_153 _ rfl) rfl ?_
    refine ev_icmp (pc1 := 26) (t := 705) (TBof tbs_153 _ rfl) (by decide) rfl (fun _ => ?_) (fun c1 => ?_)
    · refine ev_iconst (pc1 := 706) (x := 1) (by decide) (TBof tbs_153 _ rfl) rfl ?_
      exact ev_ireturn (TBof tbs_153 _ rfl) (retI_z rt_153 (Or.inr rfl)) (hQ M h D)
    · have hi : 5 * c + 5 ≤ Lb := by
        rcases Nat.lt_or_ge Lb (5 * c + 5) with z | z
        · exact absurd ((gt5 hL (by omega)).mpr z) c1
        · exact z
      have hc : c ≤ 512 := by omega
      have kk : ∀ M1 h1 D1 A1, IX M1 h1 A1 → IM M1 D1 A1 → wfA (c + 1) A1 → Ev 9 (some (Lb, xs)) 153 699 (Lw (5 * c)) [] M1 h1 D1 Q := fun M1 h1 D1 A1 i1 i2 i3 => by
        refine ev_iinc (pc1 := 702) (cc := 5) (L1 := Lw (5 * (c + 1))) rfl (by rw [ml_153]; decide) (by decide) ?_ (TBof tbs_153 _ rfl) rfl ?_
        · rw [show nI (5 * c) + 5 = nI (5 * (c + 1)) from lit (5 * c) 5]; rfl
        · exact ev_goto (pc1 := 18) (TBof tbs_153 _ rfl) (by decide) (law_loop hL hQ m (c + 1) M1 h1 D1 A1 (by omega) hi i1 i2 i3)
      refine ev_aload_n (n := 0) (v := .retAddr 0) (pc1 := 27) rfl rfl (TBof tbs_153 _ rfl) rfl ?_
      refine ev_iload_n (pc1 := 28) rfl (TBof tbs_153 _ rfl) rfl ?_
      refine ev_saload (pc1 := 29) (TBof tbs_153 _ rfl) rfl rfl (vp_in_nI (by omega) (by omega)) ?_
      refine ev_bipush (pc1 := 31) (x := 31) (by decide) (TBof tbs_153 _ rfl) rfl ?_
      refine ev_iand (pc1 := 32) (TBof tbs_153 _ rfl) rfl ?_
      generalize xs (nI (5 * c)).toNatClampNeg &&& 31 = w
      refine ev_table (TBof tbs_153 _ rfl) (fun _ => ⟨699, by decide, kk M h D A hI hJ hw.up⟩) (fun z => ?_)
      have e : w.toInt = 0 ∨ w.toInt = 1 ∨ w.toInt = 2 ∨ w.toInt = 3 ∨ w.toInt = 4 ∨ w.toInt = 5 ∨ w.toInt = 6 ∨ w.toInt = 7 ∨ w.toInt = 8 ∨ w.toInt = 9 ∨ w.toInt = 10 ∨ w.toInt = 11 ∨ w.toInt = 12 ∨ w.toInt = 13 ∨ w.toInt = 14 ∨ w.toInt = 15 ∨ w.toInt = 16 ∨ w.toInt = 17 ∨ w.toInt = 18 ∨ w.toInt = 19 ∨ w.toInt = 20 ∨ w.toInt = 21 ∨ w.toInt = 22 := by omega
      rcases e with e | e | e | e | e | e | e | e | e | e | e | e | e | e | e | e | e | e | e | e | e | e | e
      · exact ⟨108, 140, by rw [e]; rfl, by decide, LW_build hL hi hc hI hJ hw kk⟩
      · exact ⟨161, 193, by rw [e]; rfl, by decide, LW_buildAll hL hi hc hI hJ hw kk⟩
      · exact ⟨174, 206, by rw [e]; rfl, by decide, LW_setBottoms hL hi hc hI hJ hw kk⟩
      · exact ⟨207, 239, by rw [e]; rfl, by decide, LW_lay hL hi hc hI hJ hw kk⟩
      · exact ⟨250, 282, by rw [e]; rfl, by decide, LW_begin hL hi hc hI hJ hw kk⟩
      · exact ⟨263, 295, by rw [e]; rfl, by decide, LW_giveUp hL hi hc hI hJ hw kk⟩
      · exact ⟨276, 308, by rw [e]; rfl, by decide, LW_open hL hi hc hI hJ hw kk⟩
      · exact ⟨299, 331, by rw [e]; rfl, by decide, LW_close hL hi hc hI hJ hw kk⟩
      · exact ⟨322, 354, by rw [e]; rfl, by decide, LW_lift hL hi hc hI hJ hw kk⟩
      · exact ⟨345, 377, by rw [e]; rfl, by decide, LW_take hL hi hc hI hJ hw kk⟩
      · exact ⟨368, 400, by rw [e]; rfl, by decide, LW_seal hL hi hc hI hJ hw kk⟩
      · exact ⟨391, 423, by rw [e]; rfl, by decide, LW_type hL hi hc hI hJ hw kk⟩
      · exact ⟨416, 448, by rw [e]; rfl, by decide, LW_clearText hL hi hc hI hJ hw kk⟩
      · exact ⟨429, 461, by rw [e]; rfl, by decide, LW_undo hL hi hc hI hJ hw kk⟩
      · exact ⟨442, 474, by rw [e]; rfl, by decide, LW_keep hL hi hc hI hJ hw kk⟩
      · exact ⟨455, 487, by rw [e]; rfl, by decide, LW_restore hL hi hc hI hJ hw kk⟩
      · exact ⟨468, 500, by rw [e]; rfl, by decide, LW_drawer hL hi hc hI hJ hw kk⟩
      · exact ⟨501, 533, by rw [e]; rfl, by decide, LW_thing hL hi hc hI hJ hw kk⟩
      · exact ⟨534, 566, by rw [e]; rfl, by decide, LW_needs hL hi hc hI hJ hw kk⟩
      · exact ⟨567, 599, by rw [e]; rfl, by decide, LW_hint hL hi hc hI hJ hw kk⟩
      · exact ⟨590, 622, by rw [e]; rfl, by decide, LW_minutes hL hi hc hI hJ hw kk⟩
      · exact ⟨631, 663, by rw [e]; rfl, by decide, LW_minutesBits hL hi hc hI hJ hw kk⟩
      · exact ⟨644, 676, by rw [e]; rfl, by decide, LW_count hL hi hc hI hJ hw kk⟩
end LR
set_option maxHeartbeats 4000000 in
theorem stepP_q {dd NT y pc : Nat} {call : Cal} {scr : Option (Nat × (Nat → Int32))} {K K1 : Kn} {Q Q1 : Option Value → Mm → Prop} {L : Lc} {st : List Value} {σ : Mm} (hQ : ∀ v σ, Q v σ → Q1 v σ) (hK : ∀ pc L st σ, K pc L st σ → K1 pc L st σ) : stepP dd NT call scr y K Q pc L st σ → stepP dd NT call scr y K1 Q1 pc L st σ := by
  unfold stepP
  cases TB y pc with
  | none => exact id
  | some q =>
    obtain ⟨i, n⟩ := q
    cases i
    all_goals (dsimp only)
    all_goals (repeat' (first
      | exact id
      | exact hK _ _ _ _
      | exact hQ _ _
      | exact fun f z => hK _ _ _ _ (f z)
      | exact fun f z => ⟨(f z).1, hK _ _ _ _ (f z).2⟩
      | refine And.imp ?_ ?_
      | refine Or.imp ?_ ?_
      | refine Exists.imp (fun _ => ?_)
      | refine (fun f z => Exists.imp (fun _ => ?_) (f z))))
theorem runP_q {dd NT y : Nat} {call : Cal} {scr : Option (Nat × (Nat → Int32))} {Q Q1 : Option Value → Mm → Prop} (hQ : ∀ v σ, Q v σ → Q1 v σ) : ∀ (n pc : Nat) (L : Lc) (st : List Value) (σ : Mm), runP dd NT call scr y Q n pc L st σ → runP dd NT call scr y Q1 n pc L st σ
  | 0, _, _, _, _, h => h.elim
  | n + 1, _, _, _, _, h => stepP_q hQ (fun pc L st σ hk => runP_q hQ n pc L st σ hk) h

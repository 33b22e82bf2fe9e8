/-! what each block of code asks: class 0 -/
set_option maxRecDepth 100000 in
theorem R_X0_append_0 {d : Nat} {v1 : Int32} {M : Im} {h : Hm} {D : Dm} {Q : Int32 → Im → Hm → Dm → Prop} (H : (((M 31 1) < 60) → (vp_in (M 31 1) 60 ∧ (∀ M2 : Im, M2 = up2 (up2 M 32 ((M 31 1).toNatClampNeg) v1.toUInt32.toUInt16.toUInt32.toInt32) 31 1 (((up2 M 32 ((M 31 1).toNatClampNeg) v1.toUInt32.toUInt16.toUInt32.toInt32) 31 1) + 1) → (Q 1 M2 h D)))) ∧ (¬ ((M 31 1) < 60) → (Q 0 M h D))) : EvI d nX0_append 0 [(0, .ref 31), (1, .int v1)] [] M h D Q := by
  refine ev_aload_n (pc1 := 1) rfl rfl (TBof tbs_1 _ rfl) rfl ?_
  refine ev_getI (pc1 := 4) (ci := 0) (k := 1) (TBof tbs_1 _ rfl) rfl (fldof mo_1 fl_0_28) ltc_31 sh_31 nk_0_1 fi_0_1 ?_
  refine ev_bipush (pc1 := 6) (x := 60) (by decide) (TBof tbs_1 _ rfl) rfl ?_
  refine ev_icmp (pc1 := 9) (t := 11) (TBof tbs_1 _ rfl) (by decide) rfl (fun c1 => ?_) (fun c1 => ?_)
  · replace H := H.1 c1
    refine ev_aload_n (pc1 := 12) rfl rfl (TBof tbs_1 _ rfl) rfl ?_
    refine ev_getP (pc1 := 15) (ci := 0) (k := 0) (a := 32) (TBof tbs_1 _ rfl) rfl (fldof mo_1 fl_0_9) ltc_31 sh_31 nk_0_0 fp_0_0 (by decide) pf_31_0 ?_
    refine ev_aload_n (pc1 := 16) rfl rfl (TBof tbs_1 _ rfl) rfl ?_
    refine ev_getI (pc1 := 19) (ci := 0) (k := 1) (TBof tbs_1 _ rfl) rfl (fldof mo_1 fl_0_28) ltc_31 sh_31 nk_0_1 fi_0_1 ?_
    refine ev_iload_n (pc1 := 20) rfl (TBof tbs_1 _ rfl) rfl ?_
    refine ev_castore (pc1 := 21) (n := 60) (TBof tbs_1 _ rfl) rfl ltc_32 sh_32 H.1 ?_
    replace H := H.2
    refine ev_aload_n (pc1 := 22) rfl rfl (TBof tbs_1 _ rfl) rfl ?_
    refine ev_dup (pc1 := 23) rfl (TBof tbs_1 _ rfl) rfl ?_
    refine ev_getI (pc1 := 26) (ci := 0) (k := 1) (TBof tbs_1 _ rfl) rfl (fldof mo_1 fl_0_28) ltc_31 sh_31 nk_0_1 fi_0_1 ?_
    refine ev_iconst (pc1 := 27) (x := 1) (by decide) (TBof tbs_1 _ rfl) rfl ?_
    refine ev_iadd (pc1 := 28) (TBof tbs_1 _ rfl) rfl ?_
    refine ev_putI (pc1 := 31) (ci := 0) (k := 1) (TBof tbs_1 _ rfl) rfl (fldof mo_1 fl_0_28) ltc_31 sh_31 nk_0_1 rfl rfl ?_
    generalize e2 : up2 (up2 M 32 ((M 31 1).toNatClampNeg) v1.toUInt32.toUInt16.toUInt32.toInt32) 31 1 (((up2 M 32 ((M 31 1).toNatClampNeg) v1.toUInt32.toUInt16.toUInt32.toInt32) 31 1) + 1) = M2
    replace H := H M2 e2.symm
    refine ev_iconst (pc1 := 32) (x := 1) (by decide) (TBof tbs_1 _ rfl) rfl ?_
    exact ev_ireturn (TBof tbs_1 _ rfl) (retI_z rt_1 (Or.inr rfl)) ⟨_, rfl, H⟩
  · replace H := H.2 c1
    refine ev_iconst (pc1 := 10) (x := 0) (by decide) (TBof tbs_1 _ rfl) rfl ?_
    exact ev_ireturn (TBof tbs_1 _ rfl) (retI_z rt_1 (Or.inl rfl)) ⟨_, rfl, H⟩
set_option maxRecDepth 100000 in
theorem R_X0_readAll_0 {d : Nat} {M : Im} {h : Hm} {D : Dm} {Q : Int32 → Im → Hm → Dm → Prop} (H : CI d nX0_readDrawer [.ref 31] (up2 (up2 M 31 2 0) 31 3 0) h D (fun x1 M1 h1 D1 => EvI d nX0_readAll 17 [(0, .ref 31), (1, .int x1), (2, .int 0)] [] M1 h1 D1 Q)) : EvI d nX0_readAll 0 [(0, .ref 31)] [] M h D Q := by
  refine ev_aload_n (pc1 := 1) rfl rfl (TBof tbs_2 _ rfl) rfl ?_
  refine ev_iconst (pc1 := 2) (x := 0) (by decide) (TBof tbs_2 _ rfl) rfl ?_
  refine ev_putI (pc1 := 5) (ci := 0) (k := 2) (TBof tbs_2 _ rfl) rfl (fldof mo_2 fl_0_32) ltc_31 sh_31 nk_0_2 rfl rfl ?_
  refine ev_aload_n (pc1 := 6) rfl rfl (TBof tbs_2 _ rfl) rfl ?_
  refine ev_iconst (pc1 := 7) (x := 0) (by decide) (TBof tbs_2 _ rfl) rfl ?_
  refine ev_putI (pc1 := 10) (ci := 0) (k := 3) (TBof tbs_2 _ rfl) rfl (fldof mo_2 fl_0_35) ltc_31 sh_31 nk_0_3 rfl rfl ?_
  refine ev_aload_n (pc1 := 11) rfl rfl (TBof tbs_2 _ rfl) rfl ?_
  refine ev_callvI (pc1 := 14) (as := []) (r := []) (TBof tbs_2 _ rfl) rfl (lnkof mo_2 ln_0_38) rfl na_4 ltc_31 (sh_31.trans (by rw [mo_4])) (Nat.le_of_ble_eq_true rfl) H (fun x1 M1 h1 D1 H => ?_)
  refine ev_istore_n (pc1 := 15) (L1 := [(1, .int x1), (0, .ref 31)]) (by rw [ml_2]; decide) rfl (TBof tbs_2 _ rfl) rfl ?_
  refine ev_iconst (pc1 := 16) (x := 0) (by decide) (TBof tbs_2 _ rfl) rfl ?_
  refine ev_istore_n (pc1 := 17) (L1 := [(2, .int 0), (1, .int x1), (0, .ref 31)]) (by rw [ml_2]; decide) rfl (TBof tbs_2 _ rfl) rfl ?_
  exact ev_le [2, 1, 0] rfl rfl H
set_option maxRecDepth 100000 in
theorem R_X0_readAll_17 {d : Nat} {v1 v2 : Int32} {M : Im} {h : Hm} {D : Dm} {Q : Int32 → Im → Hm → Dm → Prop} (H : ((60 ≤ v2) → (((v1 = 0) → (Q (M 31 2) M h D)) ∧ (¬ (v1 = 0) → (Q (-1) M h D)))) ∧ (¬ (60 ≤ v2) → (((v1 = 0) → (((v1 = 0) → (Q (M 31 2) M h D)) ∧ (¬ (v1 = 0) → (Q (-1) M h D)))) ∧ (¬ (v1 = 0) → ((((M 31 1) ≤ (M 31 2)) → (((v1 = 0) → (Q (M 31 2) M h D)) ∧ (¬ (v1 = 0) → (Q (-1) M h D)))) ∧ (¬ ((M 31 1) ≤ (M 31 2)) → (CI d nX0_readSign [.ref 31, .int 59] M h D (fun x7 M7 h7 D7 => ((x7 = 0) → (EvI d nX0_readAll 17 [(0, .ref 31), (1, .int 0), (2, .int (v2 + 1))] [] M7 h7 D7 Q)) ∧ (¬ (x7 = 0) → (CI d nX0_readDrawer [.ref 31] M7 h7 D7 (fun x9 M9 h9 D9 => ((x9 = 0) → (EvI d nX0_readAll 17 [(0, .ref 31), (1, .int 0), (2, .int (v2 + 1))] [] M9 h9 D9 Q)) ∧ (¬ (x9 = 0) → (EvI d nX0_readAll 17 [(0, .ref 31), (1, .int 1), (2, .int (v2 + 1))] [] M9 h9 D9 Q))))))))))))) : EvI d nX0_readAll 17 [(0, .ref 31), (1, .int v1), (2, .int v2)] [] M h D Q := by
  refine ev_iload_n (pc1 := 18) rfl (TBof tbs_2 _ rfl) rfl ?_
  refine ev_bipush (pc1 := 20) (x := 60) (by decide) (TBof tbs_2 _ rfl) rfl ?_
  refine ev_icmp (pc1 := 23) (t := 66) (TBof tbs_2 _ rfl) (by decide) rfl (fun c1 => ?_) (fun c1 => ?_)
  · replace H := H.1 c1
    refine ev_iload_n (pc1 := 67) rfl (TBof tbs_2 _ rfl) rfl ?_
    refine ev_if (pc1 := 70) (t := 74) (TBof tbs_2 _ rfl) (by decide) rfl (fun c2 => ?_) (fun c2 => ?_)
    · replace H := H.1 c2
      refine ev_aload_n (pc1 := 75) rfl rfl (TBof tbs_2 _ rfl) rfl ?_
      refine ev_getI (pc1 := 78) (ci := 0) (k := 2) (TBof tbs_2 _ rfl) rfl (fldof mo_2 fl_0_32) ltc_31 sh_31 nk_0_2 fi_0_2 ?_
      exact ev_ireturn (TBof tbs_2 _ rfl) (retI_i rt_2) ⟨_, rfl, H⟩
    · replace H := H.2 c2
      refine ev_iconst (pc1 := 71) (x := (-1)) (by decide) (TBof tbs_2 _ rfl) rfl ?_
      refine ev_goto (pc1 := 78) (TBof tbs_2 _ rfl) (by decide) ?_
      exact ev_ireturn (TBof tbs_2 _ rfl) (retI_i rt_2) ⟨_, rfl, H⟩
  · replace H := H.2 c1
    refine ev_iload_n (pc1 := 24) rfl (TBof tbs_2 _ rfl) rfl ?_
    refine ev_if (pc1 := 27) (t := 66) (TBof tbs_2 _ rfl) (by decide) rfl (fun c3 => ?_) (fun c3 => ?_)
    · replace H := H.1 c3
      refine ev_iload_n (pc1 := 67) rfl (TBof tbs_2 _ rfl) rfl ?_
      refine ev_if (pc1 := 70) (t := 74) (TBof tbs_2 _ rfl) (by decide) rfl (fun c4 => ?_) (fun c4 => ?_)
      · replace H := H.1 c4
        refine ev_aload_n (pc1 := 75) rfl rfl (TBof tbs_2 _ rfl) rfl ?_
        refine ev_getI (pc1 := 78) (ci := 0) (k := 2) (TBof tbs_2 _ rfl) rfl (fldof mo_2 fl_0_32) ltc_31 sh_31 nk_0_2 fi_0_2 ?_
        exact ev_ireturn (TBof tbs_2 _ rfl) (retI_i rt_2) ⟨_, rfl, H⟩
      · replace H := H.2 c4
        refine ev_iconst (pc1 := 71) (x := (-1)) (by decide) (TBof tbs_2 _ rfl) rfl ?_
        refine ev_goto (pc1 := 78) (TBof tbs_2 _ rfl) (by decide) ?_
        exact ev_ireturn (TBof tbs_2 _ rfl) (retI_i rt_2) ⟨_, rfl, H⟩
    · replace H := H.2 c3
      refine ev_aload_n (pc1 := 28) rfl rfl (TBof tbs_2 _ rfl) rfl ?_
      refine ev_getI (pc1 := 31) (ci := 0) (k := 2) (TBof tbs_2 _ rfl) rfl (fldof mo_2 fl_0_32) ltc_31 sh_31 nk_0_2 fi_0_2 ?_
      refine ev_aload_n (pc1 := 32) rfl rfl (TBof tbs_2 _ rfl) rfl ?_
      refine ev_getI (pc1 := 35) (ci := 0) (k := 1) (TBof tbs_2 _ rfl) rfl (fldof mo_2 fl_0_28) ltc_31 sh_31 nk_0_1 fi_0_1 ?_
      refine ev_icmp (pc1 := 38) (t := 66) (TBof tbs_2 _ rfl) (by decide) rfl (fun c5 => ?_) (fun c5 => ?_)
      · replace H := H.1 c5
        refine ev_iload_n (pc1 := 67) rfl (TBof tbs_2 _ rfl) rfl ?_
        refine ev_if (pc1 := 70) (t := 74) (TBof tbs_2 _ rfl) (by decide) rfl (fun c6 => ?_) (fun c6 => ?_)
        · replace H := H.1 c6
          refine ev_aload_n (pc1 := 75) rfl rfl (TBof tbs_2 _ rfl) rfl ?_
          refine ev_getI (pc1 := 78) (ci := 0) (k := 2) (TBof tbs_2 _ rfl) rfl (fldof mo_2 fl_0_32) ltc_31 sh_31 nk_0_2 fi_0_2 ?_
          exact ev_ireturn (TBof tbs_2 _ rfl) (retI_i rt_2) ⟨_, rfl, H⟩
        · replace H := H.2 c6
          refine ev_iconst (pc1 := 71) (x := (-1)) (by decide) (TBof tbs_2 _ rfl) rfl ?_
          refine ev_goto (pc1 := 78) (TBof tbs_2 _ rfl) (by decide) ?_
          exact ev_ireturn (TBof tbs_2 _ rfl) (retI_i rt_2) ⟨_, rfl, H⟩
      · replace H := H.2 c5
        refine ev_aload_n (pc1 := 39) rfl rfl (TBof tbs_2 _ rfl) rfl ?_
        refine ev_bipush (pc1 := 41) (x := 59) (by decide) (TBof tbs_2 _ rfl) rfl ?_
        refine ev_callvI (pc1 := 44) (as := [.int 59]) (r := []) (TBof tbs_2 _ rfl) rfl (lnkof mo_2 ln_0_42) rfl na_8 ltc_31 (sh_31.trans (by rw [mo_8])) (Nat.le_of_ble_eq_true rfl) H (fun x7 M7 h7 D7 H => ?_)
        refine ev_if (pc1 := 47) (t := 58) (TBof tbs_2 _ rfl) (by decide) rfl (fun c8 => ?_) (fun c8 => ?_)
        · replace H := H.1 c8
          refine ev_iconst (pc1 := 59) (x := 0) (by decide) (TBof tbs_2 _ rfl) rfl ?_
          refine ev_istore_n (pc1 := 60) (L1 := [(1, .int 0), (0, .ref 31), (2, .int v2)]) (by rw [ml_2]; decide) rfl (TBof tbs_2 _ rfl) rfl ?_
          refine ev_iinc (pc1 := 63) (n := 2) (c := 1) (x := v2) (cc := 1) (L1 := [(2, .int (v2 + 1)), (1, .int 0), (0, .ref 31)]) rfl (by rw [ml_2]; decide) (by decide) rfl (TBof tbs_2 _ rfl) rfl ?_
          refine ev_goto (pc1 := 17) (TBof tbs_2 _ rfl) (by decide) ?_
          exact ev_le [2, 1, 0] rfl rfl H
        · replace H := H.2 c8
          refine ev_aload_n (pc1 := 48) rfl rfl (TBof tbs_2 _ rfl) rfl ?_
          refine ev_callvI (pc1 := 51) (as := []) (r := []) (TBof tbs_2 _ rfl) rfl (lnkof mo_2 ln_0_38) rfl na_4 ltc_31 (sh_31.trans (by rw [mo_4])) (Nat.le_of_ble_eq_true rfl) H (fun x9 M9 h9 D9 H => ?_)
          refine ev_if (pc1 := 54) (t := 58) (TBof tbs_2 _ rfl) (by decide) rfl (fun c10 => ?_) (fun c10 => ?_)
          · replace H := H.1 c10
            refine ev_iconst (pc1 := 59) (x := 0) (by decide) (TBof tbs_2 _ rfl) rfl ?_
            refine ev_istore_n (pc1 := 60) (L1 := [(1, .int 0), (0, .ref 31), (2, .int v2)]) (by rw [ml_2]; decide) rfl (TBof tbs_2 _ rfl) rfl ?_
            refine ev_iinc (pc1 := 63) (n := 2) (c := 1) (x := v2) (cc := 1) (L1 := [(2, .int (v2 + 1)), (1, .int 0), (0, .ref 31)]) rfl (by rw [ml_2]; decide) (by decide) rfl (TBof tbs_2 _ rfl) rfl ?_
            refine ev_goto (pc1 := 17) (TBof tbs_2 _ rfl) (by decide) ?_
            exact ev_le [2, 1, 0] rfl rfl H
          · replace H := H.2 c10
            refine ev_iconst (pc1 := 55) (x := 1) (by decide) (TBof tbs_2 _ rfl) rfl ?_
            refine ev_goto (pc1 := 59) (TBof tbs_2 _ rfl) (by decide) ?_
            refine ev_istore_n (pc1 := 60) (L1 := [(1, .int 1), (0, .ref 31), (2, .int v2)]) (by rw [ml_2]; decide) rfl (TBof tbs_2 _ rfl) rfl ?_
            refine ev_iinc (pc1 := 63) (n := 2) (c := 1) (x := v2) (cc := 1) (L1 := [(2, .int (v2 + 1)), (1, .int 1), (0, .ref 31)]) rfl (by rw [ml_2]; decide) (by decide) rfl (TBof tbs_2 _ rfl) rfl ?_
            refine ev_goto (pc1 := 17) (TBof tbs_2 _ rfl) (by decide) ?_
            exact ev_le [2, 1, 0] rfl rfl H
set_option maxRecDepth 100000 in
theorem R_X0_fitsBehind_0 {d : Nat} {v1 : Int32} {M : Im} {h : Hm} {D : Dm} {Q : Int32 → Im → Hm → Dm → Prop} (H : EvI d nX0_fitsBehind 2 [(0, .ref 31), (1, .int v1), (2, .int 0)] [] M h D Q) : EvI d nX0_fitsBehind 0 [(0, .ref 31), (1, .int v1)] [] M h D Q := by
  refine ev_iconst (pc1 := 1) (x := 0) (by decide) (TBof tbs_3 _ rfl) rfl ?_
  refine ev_istore_n (pc1 := 2) (L1 := [(2, .int 0), (0, .ref 31), (1, .int v1)]) (by rw [ml_3]; decide) rfl (TBof tbs_3 _ rfl) rfl ?_
  exact ev_le [1, 2, 0] rfl rfl H
set_option maxRecDepth 100000 in
theorem R_X0_fitsBehind_2 {d : Nat} {v1 v2 : Int32} {M : Im} {h : Hm} {D : Dm} {Q : Int32 → Im → Hm → Dm → Prop} (H : (((M 31 3) ≤ v2) → (Q 1 M h D)) ∧ (¬ ((M 31 3) ≤ v2) → (vp_in v2 21 ∧ ((((M 33 (v2.toNatClampNeg)) < (v1 + v2)) → (EvI d nX0_fitsBehind 2 [(0, .ref 31), (1, .int v1), (2, .int (v2 + 1))] [] M h D Q)) ∧ (¬ ((M 33 (v2.toNatClampNeg)) < (v1 + v2)) → (Q 0 M h D)))))) : EvI d nX0_fitsBehind 2 [(0, .ref 31), (1, .int v1), (2, .int v2)] [] M h D Q := by
  refine ev_iload_n (pc1 := 3) rfl (TBof tbs_3 _ rfl) rfl ?_
  refine ev_aload_n (pc1 := 4) rfl rfl (TBof tbs_3 _ rfl) rfl ?_
  refine ev_getI (pc1 := 7) (ci := 0) (k := 3) (TBof tbs_3 _ rfl) rfl (fldof mo_3 fl_0_35) ltc_31 sh_31 nk_0_3 fi_0_3 ?_
  refine ev_icmp (pc1 := 10) (t := 30) (TBof tbs_3 _ rfl) (by decide) rfl (fun c1 => ?_) (fun c1 => ?_)
  · replace H := H.1 c1
    refine ev_iconst (pc1 := 31) (x := 1) (by decide) (TBof tbs_3 _ rfl) rfl ?_
    exact ev_ireturn (TBof tbs_3 _ rfl) (retI_z rt_3 (Or.inr rfl)) ⟨_, rfl, H⟩
  · replace H := H.2 c1
    refine ev_aload_n (pc1 := 11) rfl rfl (TBof tbs_3 _ rfl) rfl ?_
    refine ev_getP (pc1 := 14) (ci := 0) (k := 4) (a := 33) (TBof tbs_3 _ rfl) rfl (fldof mo_3 fl_0_15) ltc_31 sh_31 nk_0_4 fp_0_4 (by decide) pf_31_4 ?_
    refine ev_iload_n (pc1 := 15) rfl (TBof tbs_3 _ rfl) rfl ?_
    refine ev_iaload (pc1 := 16) (n := 21) (TBof tbs_3 _ rfl) rfl ltc_33 sh_33 H.1 ?_
    replace H := H.2
    refine ev_iload_n (pc1 := 17) rfl (TBof tbs_3 _ rfl) rfl ?_
    refine ev_iload_n (pc1 := 18) rfl (TBof tbs_3 _ rfl) rfl ?_
    refine ev_iadd (pc1 := 19) (TBof tbs_3 _ rfl) rfl ?_
    refine ev_icmp (pc1 := 22) (t := 24) (TBof tbs_3 _ rfl) (by decide) rfl (fun c2 => ?_) (fun c2 => ?_)
    · replace H := H.1 c2
      refine ev_iinc (pc1 := 27) (n := 2) (c := 1) (x := v2) (cc := 1) (L1 := [(2, .int (v2 + 1)), (0, .ref 31), (1, .int v1)]) rfl (by rw [ml_3]; decide) (by decide) rfl (TBof tbs_3 _ rfl) rfl ?_
      refine ev_goto (pc1 := 2) (TBof tbs_3 _ rfl) (by decide) ?_
      exact ev_le [1, 2, 0] rfl rfl H
    · replace H := H.2 c2
      refine ev_iconst (pc1 := 23) (x := 0) (by decide) (TBof tbs_3 _ rfl) rfl ?_
      exact ev_ireturn (TBof tbs_3 _ rfl) (retI_z rt_3 (Or.inl rfl)) ⟨_, rfl, H⟩
set_option maxRecDepth 100000 in
theorem R_X0_readDrawer_0 {d : Nat} {M : Im} {h : Hm} {D : Dm} {Q : Int32 → Im → Hm → Dm → Prop} (H : ((21 ≤ (M 31 3)) → (Q 0 M h D)) ∧ (¬ (21 ≤ (M 31 3)) → (CI d nX0_readOuter [.ref 31] M h D (fun x2 M2 h2 D2 => ((x2 = 0) → (Q 0 M2 h2 D2)) ∧ (¬ (x2 = 0) → (CI d nX0_readHold [.ref 31] M2 h2 D2 (fun x4 M4 h4 D4 => ((x4 = 0) → (Q 0 M4 h4 D4)) ∧ (¬ (x4 = 0) → (CI d nX0_readBottoms [.ref 31] M4 h4 D4 (fun x6 M6 h6 D6 => ((¬ (x6 = 0)) → (Q 1 (up2 M6 31 3 ((M6 31 3) + 1)) h6 D6)) ∧ (¬ (¬ (x6 = 0)) → (Q 0 M6 h6 D6)))))))))))) : EvI d nX0_readDrawer 0 [(0, .ref 31)] [] M h D Q := by
  refine ev_aload_n (pc1 := 1) rfl rfl (TBof tbs_4 _ rfl) rfl ?_
  refine ev_getI (pc1 := 4) (ci := 0) (k := 3) (TBof tbs_4 _ rfl) rfl (fldof mo_4 fl_0_35) ltc_31 sh_31 nk_0_3 fi_0_3 ?_
  refine ev_bipush (pc1 := 6) (x := 21) (by decide) (TBof tbs_4 _ rfl) rfl ?_
  refine ev_icmp (pc1 := 9) (t := 30) (TBof tbs_4 _ rfl) (by decide) rfl (fun c1 => ?_) (fun c1 => ?_)
  · replace H := H.1 c1
    refine ev_iconst (pc1 := 31) (x := 0) (by decide) (TBof tbs_4 _ rfl) rfl ?_
    exact ev_ireturn (TBof tbs_4 _ rfl) (retI_z rt_4 (Or.inl rfl)) ⟨_, rfl, H⟩
  · replace H := H.2 c1
    refine ev_aload_n (pc1 := 10) rfl rfl (TBof tbs_4 _ rfl) rfl ?_
    refine ev_callvI (pc1 := 13) (as := []) (r := []) (TBof tbs_4 _ rfl) rfl (lnkof mo_4 ln_0_46) rfl na_5 ltc_31 (sh_31.trans (by rw [mo_5])) (Nat.le_of_ble_eq_true rfl) H (fun x2 M2 h2 D2 H => ?_)
    refine ev_if (pc1 := 16) (t := 30) (TBof tbs_4 _ rfl) (by decide) rfl (fun c3 => ?_) (fun c3 => ?_)
    · replace H := H.1 c3
      refine ev_iconst (pc1 := 31) (x := 0) (by decide) (TBof tbs_4 _ rfl) rfl ?_
      exact ev_ireturn (TBof tbs_4 _ rfl) (retI_z rt_4 (Or.inl rfl)) ⟨_, rfl, H⟩
    · replace H := H.2 c3
      refine ev_aload_n (pc1 := 17) rfl rfl (TBof tbs_4 _ rfl) rfl ?_
      refine ev_callvI (pc1 := 20) (as := []) (r := []) (TBof tbs_4 _ rfl) rfl (lnkof mo_4 ln_0_49) rfl na_6 ltc_31 (sh_31.trans (by rw [mo_6])) (Nat.le_of_ble_eq_true rfl) H (fun x4 M4 h4 D4 H => ?_)
      refine ev_if (pc1 := 23) (t := 30) (TBof tbs_4 _ rfl) (by decide) rfl (fun c5 => ?_) (fun c5 => ?_)
      · replace H := H.1 c5
        refine ev_iconst (pc1 := 31) (x := 0) (by decide) (TBof tbs_4 _ rfl) rfl ?_
        exact ev_ireturn (TBof tbs_4 _ rfl) (retI_z rt_4 (Or.inl rfl)) ⟨_, rfl, H⟩
      · replace H := H.2 c5
        refine ev_aload_n (pc1 := 24) rfl rfl (TBof tbs_4 _ rfl) rfl ?_
        refine ev_callvI (pc1 := 27) (as := []) (r := []) (TBof tbs_4 _ rfl) rfl (lnkof mo_4 ln_0_52) rfl na_7 ltc_31 (sh_31.trans (by rw [mo_7])) (Nat.le_of_ble_eq_true rfl) H (fun x6 M6 h6 D6 H => ?_)
        refine ev_if (pc1 := 30) (t := 32) (TBof tbs_4 _ rfl) (by decide) rfl (fun c7 => ?_) (fun c7 => ?_)
        · replace H := H.1 c7
          refine ev_aload_n (pc1 := 33) rfl rfl (TBof tbs_4 _ rfl) rfl ?_
          refine ev_dup (pc1 := 34) rfl (TBof tbs_4 _ rfl) rfl ?_
          refine ev_getI (pc1 := 37) (ci := 0) (k := 3) (TBof tbs_4 _ rfl) rfl (fldof mo_4 fl_0_35) ltc_31 sh_31 nk_0_3 fi_0_3 ?_
          refine ev_iconst (pc1 := 38) (x := 1) (by decide) (TBof tbs_4 _ rfl) rfl ?_
          refine ev_iadd (pc1 := 39) (TBof tbs_4 _ rfl) rfl ?_
          refine ev_putI (pc1 := 42) (ci := 0) (k := 3) (TBof tbs_4 _ rfl) rfl (fldof mo_4 fl_0_35) ltc_31 sh_31 nk_0_3 rfl rfl ?_
          refine ev_iconst (pc1 := 43) (x := 1) (by decide) (TBof tbs_4 _ rfl) rfl ?_
          exact ev_ireturn (TBof tbs_4 _ rfl) (retI_z rt_4 (Or.inr rfl)) ⟨_, rfl, H⟩
        · replace H := H.2 c7
          refine ev_iconst (pc1 := 31) (x := 0) (by decide) (TBof tbs_4 _ rfl) rfl ?_
          exact ev_ireturn (TBof tbs_4 _ rfl) (retI_z rt_4 (Or.inl rfl)) ⟨_, rfl, H⟩
set_option maxRecDepth 100000 in
theorem R_X0_readOuter_0 {d : Nat} {M : Im} {h : Hm} {D : Dm} {Q : Int32 → Im → Hm → Dm → Prop} (H : CI d nX0_readSign [.ref 31, .int 99] M h D (fun x1 M1 h1 D1 => ((x1 = 0) → (CI d nX0_readNumber [.ref 31] M1 h1 D1 (fun x3 M3 h3 D3 => vp_in (M1 31 3) 21 ∧ (vp_in ((up2 M3 33 ((M1 31 3).toNatClampNeg) x3) 31 3) 21 ∧ (((((up2 M3 33 ((M1 31 3).toNatClampNeg) x3) 33 (((up2 M3 33 ((M1 31 3).toNatClampNeg) x3) 31 3).toNatClampNeg)) = (-1)) → (Q 0 (up2 M3 33 ((M1 31 3).toNatClampNeg) x3) h3 D3)) ∧ (¬ (((up2 M3 33 ((M1 31 3).toNatClampNeg) x3) 33 (((up2 M3 33 ((M1 31 3).toNatClampNeg) x3) 31 3).toNatClampNeg)) = (-1)) → (Q 1 (up2 M3 33 ((M1 31 3).toNatClampNeg) x3) h3 D3))))))) ∧ (¬ (x1 = 0) → (vp_in (M1 31 3) 21 ∧ (Q 1 (up2 M1 33 ((M1 31 3).toNatClampNeg) (-5)) h1 D1))))) : EvI d nX0_readOuter 0 [(0, .ref 31)] [] M h D Q := by
  refine ev_aload_n (pc1 := 1) rfl rfl (TBof tbs_5 _ rfl) rfl ?_
  refine ev_bipush (pc1 := 3) (x := 99) (by decide) (TBof tbs_5 _ rfl) rfl ?_
  refine ev_callvI (pc1 := 6) (as := [.int 99]) (r := []) (TBof tbs_5 _ rfl) rfl (lnkof mo_5 ln_0_42) rfl na_8 ltc_31 (sh_31.trans (by rw [mo_8])) (Nat.le_of_ble_eq_true rfl) H (fun x1 M1 h1 D1 H => ?_)
  refine ev_if (pc1 := 9) (t := 22) (TBof tbs_5 _ rfl) (by decide) rfl (fun c2 => ?_) (fun c2 => ?_)
  · replace H := H.1 c2
    refine ev_aload_n (pc1 := 23) rfl rfl (TBof tbs_5 _ rfl) rfl ?_
    refine ev_getP (pc1 := 26) (ci := 0) (k := 4) (a := 33) (TBof tbs_5 _ rfl) rfl (fldof mo_5 fl_0_15) ltc_31 sh_31 nk_0_4 fp_0_4 (by decide) pf_31_4 ?_
    refine ev_aload_n (pc1 := 27) rfl rfl (TBof tbs_5 _ rfl) rfl ?_
    refine ev_getI (pc1 := 30) (ci := 0) (k := 3) (TBof tbs_5 _ rfl) rfl (fldof mo_5 fl_0_35) ltc_31 sh_31 nk_0_3 fi_0_3 ?_
    refine ev_aload_n (pc1 := 31) rfl rfl (TBof tbs_5 _ rfl) rfl ?_
    refine ev_callvI (pc1 := 34) (as := []) (r := [.int (M1 31 3), .ref 33]) (TBof tbs_5 _ rfl) rfl (lnkof mo_5 ln_0_55) rfl na_9 ltc_31 (sh_31.trans (by rw [mo_9])) (Nat.le_of_ble_eq_true rfl) H (fun x3 M3 h3 D3 H => ?_)
    refine ev_iastore (pc1 := 35) (n := 21) (TBof tbs_5 _ rfl) rfl ltc_33 sh_33 H.1 ?_
    replace H := H.2
    refine ev_aload_n (pc1 := 36) rfl rfl (TBof tbs_5 _ rfl) rfl ?_
    refine ev_getP (pc1 := 39) (ci := 0) (k := 4) (a := 33) (TBof tbs_5 _ rfl) rfl (fldof mo_5 fl_0_15) ltc_31 sh_31 nk_0_4 fp_0_4 (by decide) pf_31_4 ?_
    refine ev_aload_n (pc1 := 40) rfl rfl (TBof tbs_5 _ rfl) rfl ?_
    refine ev_getI (pc1 := 43) (ci := 0) (k := 3) (TBof tbs_5 _ rfl) rfl (fldof mo_5 fl_0_35) ltc_31 sh_31 nk_0_3 fi_0_3 ?_
    refine ev_iaload (pc1 := 44) (n := 21) (TBof tbs_5 _ rfl) rfl ltc_33 sh_33 H.1 ?_
    replace H := H.2
    refine ev_iconst (pc1 := 45) (x := (-1)) (by decide) (TBof tbs_5 _ rfl) rfl ?_
    refine ev_icmp (pc1 := 48) (t := 52) (TBof tbs_5 _ rfl) (by decide) rfl (fun c4 => ?_) (fun c4 => ?_)
    · replace H := H.1 c4
      refine ev_iconst (pc1 := 53) (x := 0) (by decide) (TBof tbs_5 _ rfl) rfl ?_
      exact ev_ireturn (TBof tbs_5 _ rfl) (retI_z rt_5 (Or.inl rfl)) ⟨_, rfl, H⟩
    · replace H := H.2 c4
      refine ev_iconst (pc1 := 49) (x := 1) (by decide) (TBof tbs_5 _ rfl) rfl ?_
      refine ev_goto (pc1 := 53) (TBof tbs_5 _ rfl) (by decide) ?_
      exact ev_ireturn (TBof tbs_5 _ rfl) (retI_z rt_5 (Or.inr rfl)) ⟨_, rfl, H⟩
  · replace H := H.2 c2
    refine ev_aload_n (pc1 := 10) rfl rfl (TBof tbs_5 _ rfl) rfl ?_
    refine ev_getP (pc1 := 13) (ci := 0) (k := 4) (a := 33) (TBof tbs_5 _ rfl) rfl (fldof mo_5 fl_0_15) ltc_31 sh_31 nk_0_4 fp_0_4 (by decide) pf_31_4 ?_
    refine ev_aload_n (pc1 := 14) rfl rfl (TBof tbs_5 _ rfl) rfl ?_
    refine ev_getI (pc1 := 17) (ci := 0) (k := 3) (TBof tbs_5 _ rfl) rfl (fldof mo_5 fl_0_35) ltc_31 sh_31 nk_0_3 fi_0_3 ?_
    refine ev_bipush (pc1 := 19) (x := (-5)) (by decide) (TBof tbs_5 _ rfl) rfl ?_
    refine ev_iastore (pc1 := 20) (n := 21) (TBof tbs_5 _ rfl) rfl ltc_33 sh_33 H.1 ?_
    replace H := H.2
    refine ev_iconst (pc1 := 21) (x := 1) (by decide) (TBof tbs_5 _ rfl) rfl ?_
    exact ev_ireturn (TBof tbs_5 _ rfl) (retI_z rt_5 (Or.inr rfl)) ⟨_, rfl, H⟩
set_option maxRecDepth 100000 in
theorem R_X0_readHold_0 {d : Nat} {M : Im} {h : Hm} {D : Dm} {Q : Int32 → Im → Hm → Dm → Prop} (H : CI d nX0_readSign [.ref 31, .int 104] M h D (fun x1 M1 h1 D1 => ((x1 = 0) → (CI d nX0_readSign [.ref 31, .int 115] M1 h1 D1 (fun x3 M3 h3 D3 => ((x3 = 0) → (CI d nX0_readSign [.ref 31, .int 107] M3 h3 D3 (fun x5 M5 h5 D5 => ((x5 = 0) → (CI d nX0_readSign [.ref 31, .int 108] M5 h5 D5 (fun x7 M7 h7 D7 => ((x7 = 0) → (Q 0 M7 h7 D7)) ∧ (¬ (x7 = 0) → (vp_in (M7 31 3) 21 ∧ (CI d nX0_readNumber [.ref 31] (up2 M7 34 ((M7 31 3).toNatClampNeg) 2) h7 D7 (fun x9 M9 h9 D9 => vp_in ((up2 M7 34 ((M7 31 3).toNatClampNeg) 2) 31 3) 21 ∧ (vp_in ((up2 M9 35 (((up2 M7 34 ((M7 31 3).toNatClampNeg) 2) 31 3).toNatClampNeg) x9) 31 3) 21 ∧ (((((up2 M9 35 (((up2 M7 34 ((M7 31 3).toNatClampNeg) 2) 31 3).toNatClampNeg) x9) 35 (((up2 M9 35 (((up2 M7 34 ((M7 31 3).toNatClampNeg) 2) 31 3).toNatClampNeg) x9) 31 3).toNatClampNeg)) = (-1)) → (Q 0 (up2 M9 35 (((up2 M7 34 ((M7 31 3).toNatClampNeg) 2) 31 3).toNatClampNeg) x9) h9 D9)) ∧ (¬ (((up2 M9 35 (((up2 M7 34 ((M7 31 3).toNatClampNeg) 2) 31 3).toNatClampNeg) x9) 35 (((up2 M9 35 (((up2 M7 34 ((M7 31 3).toNatClampNeg) 2) 31 3).toNatClampNeg) x9) 31 3).toNatClampNeg)) = (-1)) → (Q 1 (up2 M9 35 (((up2 M7 34 ((M7 31 3).toNatClampNeg) 2) 31 3).toNatClampNeg) x9) h9 D9))))))))))) ∧ (¬ (x5 = 0) → (vp_in (M5 31 3) 21 ∧ (CI d nX0_readDigit [.ref 31, .int 0, .int 9] (up2 M5 34 ((M5 31 3).toNatClampNeg) 1) h5 D5 (fun x11 M11 h11 D11 => vp_in ((up2 M5 34 ((M5 31 3).toNatClampNeg) 1) 31 3) 21 ∧ (vp_in ((up2 M11 35 (((up2 M5 34 ((M5 31 3).toNatClampNeg) 1) 31 3).toNatClampNeg) x11) 31 3) 21 ∧ (((((up2 M11 35 (((up2 M5 34 ((M5 31 3).toNatClampNeg) 1) 31 3).toNatClampNeg) x11) 35 (((up2 M11 35 (((up2 M5 34 ((M5 31 3).toNatClampNeg) 1) 31 3).toNatClampNeg) x11) 31 3).toNatClampNeg)) = (-1)) → (Q 0 (up2 M11 35 (((up2 M5 34 ((M5 31 3).toNatClampNeg) 1) 31 3).toNatClampNeg) x11) h11 D11)) ∧ (¬ (((up2 M11 35 (((up2 M5 34 ((M5 31 3).toNatClampNeg) 1) 31 3).toNatClampNeg) x11) 35 (((up2 M11 35 (((up2 M5 34 ((M5 31 3).toNatClampNeg) 1) 31 3).toNatClampNeg) x11) 31 3).toNatClampNeg)) = (-1)) → (Q 1 (up2 M11 35 (((up2 M5 34 ((M5 31 3).toNatClampNeg) 1) 31 3).toNatClampNeg) x11) h11 D11))))))))))) ∧ (¬ (x3 = 0) → (vp_in (M3 31 3) 21 ∧ (Q 1 (up2 M3 34 ((M3 31 3).toNatClampNeg) 3) h3 D3)))))) ∧ (¬ (x1 = 0) → (vp_in (M1 31 3) 21 ∧ (Q 1 (up2 M1 34 ((M1 31 3).toNatClampNeg) 0) h1 D1))))) : EvI d nX0_readHold 0 [(0, .ref 31)] [] M h D Q := by
  refine ev_aload_n (pc1 := 1) rfl rfl (TBof tbs_6 _ rfl) rfl ?_
  refine ev_bipush (pc1 := 3) (x := 104) (by decide) (TBof tbs_6 _ rfl) rfl ?_
  refine ev_callvI (pc1 := 6) (as := [.int 104]) (r := []) (TBof tbs_6 _ rfl) rfl (lnkof mo_6 ln_0_42) rfl na_8 ltc_31 (sh_31.trans (by rw [mo_8])) (Nat.le_of_ble_eq_true rfl) H (fun x1 M1 h1 D1 H => ?_)
  refine ev_if (pc1 := 9) (t := 21) (TBof tbs_6 _ rfl) (by decide) rfl (fun c2 => ?_) (fun c2 => ?_)
  · replace H := H.1 c2
    refine ev_aload_n (pc1 := 22) rfl rfl (TBof tbs_6 _ rfl) rfl ?_
    refine ev_bipush (pc1 := 24) (x := 115) (by decide) (TBof tbs_6 _ rfl) rfl ?_
    refine ev_callvI (pc1 := 27) (as := [.int 115]) (r := []) (TBof tbs_6 _ rfl) rfl (lnkof mo_6 ln_0_42) rfl na_8 ltc_31 (sh_31.trans (by rw [mo_8])) (Nat.le_of_ble_eq_true rfl) H (fun x3 M3 h3 D3 H => ?_)
    refine ev_if (pc1 := 30) (t := 42) (TBof tbs_6 _ rfl) (by decide) rfl (fun c4 => ?_) (fun c4 => ?_)
    · replace H := H.1 c4
      refine ev_aload_n (pc1 := 43) rfl rfl (TBof tbs_6 _ rfl) rfl ?_
      refine ev_bipush (pc1 := 45) (x := 107) (by decide) (TBof tbs_6 _ rfl) rfl ?_
      refine ev_callvI (pc1 := 48) (as := [.int 107]) (r := []) (TBof tbs_6 _ rfl) rfl (lnkof mo_6 ln_0_42) rfl na_8 ltc_31 (sh_31.trans (by rw [mo_8])) (Nat.le_of_ble_eq_true rfl) H (fun x5 M5 h5 D5 H => ?_)
      refine ev_if (pc1 := 51) (t := 96) (TBof tbs_6 _ rfl) (by decide) rfl (fun c6 => ?_) (fun c6 => ?_)
      · replace H := H.1 c6
        refine ev_aload_n (pc1 := 97) rfl rfl (TBof tbs_6 _ rfl) rfl ?_
        refine ev_bipush (pc1 := 99) (x := 108) (by decide) (TBof tbs_6 _ rfl) rfl ?_
        refine ev_callvI (pc1 := 102) (as := [.int 108]) (r := []) (TBof tbs_6 _ rfl) rfl (lnkof mo_6 ln_0_42) rfl na_8 ltc_31 (sh_31.trans (by rw [mo_8])) (Nat.le_of_ble_eq_true rfl) H (fun x7 M7 h7 D7 H => ?_)
        refine ev_if (pc1 := 105) (t := 147) (TBof tbs_6 _ rfl) (by decide) rfl (fun c8 => ?_) (fun c8 => ?_)
        · replace H := H.1 c8
          refine ev_iconst (pc1 := 148) (x := 0) (by decide) (TBof tbs_6 _ rfl) rfl ?_
          exact ev_ireturn (TBof tbs_6 _ rfl) (retI_z rt_6 (Or.inl rfl)) ⟨_, rfl, H⟩
        · replace H := H.2 c8
          refine ev_aload_n (pc1 := 106) rfl rfl (TBof tbs_6 _ rfl) rfl ?_
          refine ev_getP (pc1 := 109) (ci := 0) (k := 5) (a := 34) (TBof tbs_6 _ rfl) rfl (fldof mo_6 fl_0_19) ltc_31 sh_31 nk_0_5 fp_0_5 (by decide) pf_31_5 ?_
          refine ev_aload_n (pc1 := 110) rfl rfl (TBof tbs_6 _ rfl) rfl ?_
          refine ev_getI (pc1 := 113) (ci := 0) (k := 3) (TBof tbs_6 _ rfl) rfl (fldof mo_6 fl_0_35) ltc_31 sh_31 nk_0_3 fi_0_3 ?_
          refine ev_iconst (pc1 := 114) (x := 2) (by decide) (TBof tbs_6 _ rfl) rfl ?_
          refine ev_iastore (pc1 := 115) (n := 21) (TBof tbs_6 _ rfl) rfl ltc_34 sh_34 H.1 ?_
          replace H := H.2
          refine ev_aload_n (pc1 := 116) rfl rfl (TBof tbs_6 _ rfl) rfl ?_
          refine ev_getP (pc1 := 119) (ci := 0) (k := 6) (a := 35) (TBof tbs_6 _ rfl) rfl (fldof mo_6 fl_0_22) ltc_31 sh_31 nk_0_6 fp_0_6 (by decide) pf_31_6 ?_
          refine ev_aload_n (pc1 := 120) rfl rfl (TBof tbs_6 _ rfl) rfl ?_
          refine ev_getI (pc1 := 123) (ci := 0) (k := 3) (TBof tbs_6 _ rfl) rfl (fldof mo_6 fl_0_35) ltc_31 sh_31 nk_0_3 fi_0_3 ?_
          refine ev_aload_n (pc1 := 124) rfl rfl (TBof tbs_6 _ rfl) rfl ?_
          refine ev_callvI (pc1 := 127) (as := []) (r := [.int ((up2 M7 34 ((M7 31 3).toNatClampNeg) 2) 31 3), .ref 35]) (TBof tbs_6 _ rfl) rfl (lnkof mo_6 ln_0_55) rfl na_9 ltc_31 (sh_31.trans (by rw [mo_9])) (Nat.le_of_ble_eq_true rfl) H (fun x9 M9 h9 D9 H => ?_)
          refine ev_iastore (pc1 := 128) (n := 21) (TBof tbs_6 _ rfl) rfl ltc_35 sh_35 H.1 ?_
          replace H := H.2
          refine ev_aload_n (pc1 := 129) rfl rfl (TBof tbs_6 _ rfl) rfl ?_
          refine ev_getP (pc1 := 132) (ci := 0) (k := 6) (a := 35) (TBof tbs_6 _ rfl) rfl (fldof mo_6 fl_0_22) ltc_31 sh_31 nk_0_6 fp_0_6 (by decide) pf_31_6 ?_
          refine ev_aload_n (pc1 := 133) rfl rfl (TBof tbs_6 _ rfl) rfl ?_
          refine ev_getI (pc1 := 136) (ci := 0) (k := 3) (TBof tbs_6 _ rfl) rfl (fldof mo_6 fl_0_35) ltc_31 sh_31 nk_0_3 fi_0_3 ?_
          refine ev_iaload (pc1 := 137) (n := 21) (TBof tbs_6 _ rfl) rfl ltc_35 sh_35 H.1 ?_
          replace H := H.2
          refine ev_iconst (pc1 := 138) (x := (-1)) (by decide) (TBof tbs_6 _ rfl) rfl ?_
          refine ev_icmp (pc1 := 141) (t := 145) (TBof tbs_6 _ rfl) (by decide) rfl (fun c10 => ?_) (fun c10 => ?_)
          · replace H := H.1 c10
            refine ev_iconst (pc1 := 146) (x := 0) (by decide) (TBof tbs_6 _ rfl) rfl ?_
            exact ev_ireturn (TBof tbs_6 _ rfl) (retI_z rt_6 (Or.inl rfl)) ⟨_, rfl, H⟩
          · replace H := H.2 c10
            refine ev_iconst (pc1 := 142) (x := 1) (by decide) (TBof tbs_6 _ rfl) rfl ?_
            refine ev_goto (pc1 := 146) (TBof tbs_6 _ rfl) (by decide) ?_
            exact ev_ireturn (TBof tbs_6 _ rfl) (retI_z rt_6 (Or.inr rfl)) ⟨_, rfl, H⟩
      · replace H := H.2 c6
        refine ev_aload_n (pc1 := 52) rfl rfl (TBof tbs_6 _ rfl) rfl ?_
        refine ev_getP (pc1 := 55) (ci := 0) (k := 5) (a := 34) (TBof tbs_6 _ rfl) rfl (fldof mo_6 fl_0_19) ltc_31 sh_31 nk_0_5 fp_0_5 (by decide) pf_31_5 ?_
        refine ev_aload_n (pc1 := 56) rfl rfl (TBof tbs_6 _ rfl) rfl ?_
        refine ev_getI (pc1 := 59) (ci := 0) (k := 3) (TBof tbs_6 _ rfl) rfl (fldof mo_6 fl_0_35) ltc_31 sh_31 nk_0_3 fi_0_3 ?_
        refine ev_iconst (pc1 := 60) (x := 1) (by decide) (TBof tbs_6 _ rfl) rfl ?_
        refine ev_iastore (pc1 := 61) (n := 21) (TBof tbs_6 _ rfl) rfl ltc_34 sh_34 H.1 ?_
        replace H := H.2
        refine ev_aload_n (pc1 := 62) rfl rfl (TBof tbs_6 _ rfl) rfl ?_
        refine ev_getP (pc1 := 65) (ci := 0) (k := 6) (a := 35) (TBof tbs_6 _ rfl) rfl (fldof mo_6 fl_0_22) ltc_31 sh_31 nk_0_6 fp_0_6 (by decide) pf_31_6 ?_
        refine ev_aload_n (pc1 := 66) rfl rfl (TBof tbs_6 _ rfl) rfl ?_
        refine ev_getI (pc1 := 69) (ci := 0) (k := 3) (TBof tbs_6 _ rfl) rfl (fldof mo_6 fl_0_35) ltc_31 sh_31 nk_0_3 fi_0_3 ?_
        refine ev_aload_n (pc1 := 70) rfl rfl (TBof tbs_6 _ rfl) rfl ?_
        refine ev_iconst (pc1 := 71) (x := 0) (by decide) (TBof tbs_6 _ rfl) rfl ?_
        refine ev_bipush (pc1 := 73) (x := 9) (by decide) (TBof tbs_6 _ rfl) rfl ?_
        refine ev_callvI (pc1 := 76) (as := [.int 0, .int 9]) (r := [.int ((up2 M5 34 ((M5 31 3).toNatClampNeg) 1) 31 3), .ref 35]) (TBof tbs_6 _ rfl) rfl (lnkof mo_6 ln_0_59) rfl na_10 ltc_31 (sh_31.trans (by rw [mo_10])) (Nat.le_of_ble_eq_true rfl) H (fun x11 M11 h11 D11 H => ?_)
        refine ev_iastore (pc1 := 77) (n := 21) (TBof tbs_6 _ rfl) rfl ltc_35 sh_35 H.1 ?_
        replace H := H.2
        refine ev_aload_n (pc1 := 78) rfl rfl (TBof tbs_6 _ rfl) rfl ?_
        refine ev_getP (pc1 := 81) (ci := 0) (k := 6) (a := 35) (TBof tbs_6 _ rfl) rfl (fldof mo_6 fl_0_22) ltc_31 sh_31 nk_0_6 fp_0_6 (by decide) pf_31_6 ?_
        refine ev_aload_n (pc1 := 82) rfl rfl (TBof tbs_6 _ rfl) rfl ?_
        refine ev_getI (pc1 := 85) (ci := 0) (k := 3) (TBof tbs_6 _ rfl) rfl (fldof mo_6 fl_0_35) ltc_31 sh_31 nk_0_3 fi_0_3 ?_
        refine ev_iaload (pc1 := 86) (n := 21) (TBof tbs_6 _ rfl) rfl ltc_35 sh_35 H.1 ?_
        replace H := H.2
        refine ev_iconst (pc1 := 87) (x := (-1)) (by decide) (TBof tbs_6 _ rfl) rfl ?_
        refine ev_icmp (pc1 := 90) (t := 94) (TBof tbs_6 _ rfl) (by decide) rfl (fun c12 => ?_) (fun c12 => ?_)
        · replace H := H.1 c12
          refine ev_iconst (pc1 := 95) (x := 0) (by decide) (TBof tbs_6 _ rfl) rfl ?_
          exact ev_ireturn (TBof tbs_6 _ rfl) (retI_z rt_6 (Or.inl rfl)) ⟨_, rfl, H⟩
        · replace H := H.2 c12
          refine ev_iconst (pc1 := 91) (x := 1) (by decide) (TBof tbs_6 _ rfl) rfl ?_
          refine ev_goto (pc1 := 95) (TBof tbs_6 _ rfl) (by decide) ?_
          exact ev_ireturn (TBof tbs_6 _ rfl) (retI_z rt_6 (Or.inr rfl)) ⟨_, rfl, H⟩
    · replace H := H.2 c4
      refine ev_aload_n (pc1 := 31) rfl rfl (TBof tbs_6 _ rfl) rfl ?_
      refine ev_getP (pc1 := 34) (ci := 0) (k := 5) (a := 34) (TBof tbs_6 _ rfl) rfl (fldof mo_6 fl_0_19) ltc_31 sh_31 nk_0_5 fp_0_5 (by decide) pf_31_5 ?_
      refine ev_aload_n (pc1 := 35) rfl rfl (TBof tbs_6 _ rfl) rfl ?_
      refine ev_getI (pc1 := 38) (ci := 0) (k := 3) (TBof tbs_6 _ rfl) rfl (fldof mo_6 fl_0_35) ltc_31 sh_31 nk_0_3 fi_0_3 ?_
      refine ev_iconst (pc1 := 39) (x := 3) (by decide) (TBof tbs_6 _ rfl) rfl ?_
      refine ev_iastore (pc1 := 40) (n := 21) (TBof tbs_6 _ rfl) rfl ltc_34 sh_34 H.1 ?_
      replace H := H.2
      refine ev_iconst (pc1 := 41) (x := 1) (by decide) (TBof tbs_6 _ rfl) rfl ?_
      exact ev_ireturn (TBof tbs_6 _ rfl) (retI_z rt_6 (Or.inr rfl)) ⟨_, rfl, H⟩
  · replace H := H.2 c2
    refine ev_aload_n (pc1 := 10) rfl rfl (TBof tbs_6 _ rfl) rfl ?_
    refine ev_getP (pc1 := 13) (ci := 0) (k := 5) (a := 34) (TBof tbs_6 _ rfl) rfl (fldof mo_6 fl_0_19) ltc_31 sh_31 nk_0_5 fp_0_5 (by decide) pf_31_5 ?_
    refine ev_aload_n (pc1 := 14) rfl rfl (TBof tbs_6 _ rfl) rfl ?_
    refine ev_getI (pc1 := 17) (ci := 0) (k := 3) (TBof tbs_6 _ rfl) rfl (fldof mo_6 fl_0_35) ltc_31 sh_31 nk_0_3 fi_0_3 ?_
    refine ev_iconst (pc1 := 18) (x := 0) (by decide) (TBof tbs_6 _ rfl) rfl ?_
    refine ev_iastore (pc1 := 19) (n := 21) (TBof tbs_6 _ rfl) rfl ltc_34 sh_34 H.1 ?_
    replace H := H.2
    refine ev_iconst (pc1 := 20) (x := 1) (by decide) (TBof tbs_6 _ rfl) rfl ?_
    exact ev_ireturn (TBof tbs_6 _ rfl) (retI_z rt_6 (Or.inr rfl)) ⟨_, rfl, H⟩
set_option maxRecDepth 100000 in
theorem R_X0_readBottoms_0 {d : Nat} {M : Im} {h : Hm} {D : Dm} {Q : Int32 → Im → Hm → Dm → Prop} (H : vp_in (M 31 3) 21 ∧ (CI d nX0_readSign [.ref 31, .int 42] (up2 M 36 ((M 31 3).toNatClampNeg) 0) h D (fun x1 M1 h1 D1 => ((¬ (x1 = 0)) → (CI d nX0_readDigit [.ref 31, .int 1, .int 3] M1 h1 D1 (fun x3 M3 h3 D3 => vp_in (M1 31 3) 21 ∧ (vp_in ((up2 M3 36 ((M1 31 3).toNatClampNeg) x3) 31 3) 21 ∧ (((((up2 M3 36 ((M1 31 3).toNatClampNeg) x3) 36 (((up2 M3 36 ((M1 31 3).toNatClampNeg) x3) 31 3).toNatClampNeg)) = (-1)) → (Q 0 (up2 M3 36 ((M1 31 3).toNatClampNeg) x3) h3 D3)) ∧ (¬ (((up2 M3 36 ((M1 31 3).toNatClampNeg) x3) 36 (((up2 M3 36 ((M1 31 3).toNatClampNeg) x3) 31 3).toNatClampNeg)) = (-1)) → (Q 1 (up2 M3 36 ((M1 31 3).toNatClampNeg) x3) h3 D3))))))) ∧ (¬ (¬ (x1 = 0)) → (Q 1 M1 h1 D1))))) : EvI d nX0_readBottoms 0 [(0, .ref 31)] [] M h D Q := by
  refine ev_aload_n (pc1 := 1) rfl rfl (TBof tbs_7 _ rfl) rfl ?_
  refine ev_getP (pc1 := 4) (ci := 0) (k := 7) (a := 36) (TBof tbs_7 _ rfl) rfl (fldof mo_7 fl_0_25) ltc_31 sh_31 nk_0_7 fp_0_7 (by decide) pf_31_7 ?_
  refine ev_aload_n (pc1 := 5) rfl rfl (TBof tbs_7 _ rfl) rfl ?_
  refine ev_getI (pc1 := 8) (ci := 0) (k := 3) (TBof tbs_7 _ rfl) rfl (fldof mo_7 fl_0_35) ltc_31 sh_31 nk_0_3 fi_0_3 ?_
  refine ev_iconst (pc1 := 9) (x := 0) (by decide) (TBof tbs_7 _ rfl) rfl ?_
  refine ev_iastore (pc1 := 10) (n := 21) (TBof tbs_7 _ rfl) rfl ltc_36 sh_36 H.1 ?_
  replace H := H.2
  refine ev_aload_n (pc1 := 11) rfl rfl (TBof tbs_7 _ rfl) rfl ?_
  refine ev_bipush (pc1 := 13) (x := 42) (by decide) (TBof tbs_7 _ rfl) rfl ?_
  refine ev_callvI (pc1 := 16) (as := [.int 42]) (r := []) (TBof tbs_7 _ rfl) rfl (lnkof mo_7 ln_0_42) rfl na_8 ltc_31 (sh_31.trans (by rw [mo_8])) (Nat.le_of_ble_eq_true rfl) H (fun x1 M1 h1 D1 H => ?_)
  refine ev_if (pc1 := 19) (t := 21) (TBof tbs_7 _ rfl) (by decide) rfl (fun c2 => ?_) (fun c2 => ?_)
  · replace H := H.1 c2
    refine ev_aload_n (pc1 := 22) rfl rfl (TBof tbs_7 _ rfl) rfl ?_
    refine ev_getP (pc1 := 25) (ci := 0) (k := 7) (a := 36) (TBof tbs_7 _ rfl) rfl (fldof mo_7 fl_0_25) ltc_31 sh_31 nk_0_7 fp_0_7 (by decide) pf_31_7 ?_
    refine ev_aload_n (pc1 := 26) rfl rfl (TBof tbs_7 _ rfl) rfl ?_
    refine ev_getI (pc1 := 29) (ci := 0) (k := 3) (TBof tbs_7 _ rfl) rfl (fldof mo_7 fl_0_35) ltc_31 sh_31 nk_0_3 fi_0_3 ?_
    refine ev_aload_n (pc1 := 30) rfl rfl (TBof tbs_7 _ rfl) rfl ?_
    refine ev_iconst (pc1 := 31) (x := 1) (by decide) (TBof tbs_7 _ rfl) rfl ?_
    refine ev_iconst (pc1 := 32) (x := 3) (by decide) (TBof tbs_7 _ rfl) rfl ?_
    refine ev_callvI (pc1 := 35) (as := [.int 1, .int 3]) (r := [.int (M1 31 3), .ref 36]) (TBof tbs_7 _ rfl) rfl (lnkof mo_7 ln_0_59) rfl na_10 ltc_31 (sh_31.trans (by rw [mo_10])) (Nat.le_of_ble_eq_true rfl) H (fun x3 M3 h3 D3 H => ?_)
    refine ev_iastore (pc1 := 36) (n := 21) (TBof tbs_7 _ rfl) rfl ltc_36 sh_36 H.1 ?_
    replace H := H.2
    refine ev_aload_n (pc1 := 37) rfl rfl (TBof tbs_7 _ rfl) rfl ?_
    refine ev_getP (pc1 := 40) (ci := 0) (k := 7) (a := 36) (TBof tbs_7 _ rfl) rfl (fldof mo_7 fl_0_25) ltc_31 sh_31 nk_0_7 fp_0_7 (by decide) pf_31_7 ?_
    refine ev_aload_n (pc1 := 41) rfl rfl (TBof tbs_7 _ rfl) rfl ?_
    refine ev_getI (pc1 := 44) (ci := 0) (k := 3) (TBof tbs_7 _ rfl) rfl (fldof mo_7 fl_0_35) ltc_31 sh_31 nk_0_3 fi_0_3 ?_
    refine ev_iaload (pc1 := 45) (n := 21) (TBof tbs_7 _ rfl) rfl ltc_36 sh_36 H.1 ?_
    replace H := H.2
    refine ev_iconst (pc1 := 46) (x := (-1)) (by decide) (TBof tbs_7 _ rfl) rfl ?_
    refine ev_icmp (pc1 := 49) (t := 53) (TBof tbs_7 _ rfl) (by decide) rfl (fun c4 => ?_) (fun c4 => ?_)
    · replace H := H.1 c4
      refine ev_iconst (pc1 := 54) (x := 0) (by decide) (TBof tbs_7 _ rfl) rfl ?_
      exact ev_ireturn (TBof tbs_7 _ rfl) (retI_z rt_7 (Or.inl rfl)) ⟨_, rfl, H⟩
    · replace H := H.2 c4
      refine ev_iconst (pc1 := 50) (x := 1) (by decide) (TBof tbs_7 _ rfl) rfl ?_
      refine ev_goto (pc1 := 54) (TBof tbs_7 _ rfl) (by decide) ?_
      exact ev_ireturn (TBof tbs_7 _ rfl) (retI_z rt_7 (Or.inr rfl)) ⟨_, rfl, H⟩
  · replace H := H.2 c2
    refine ev_iconst (pc1 := 20) (x := 1) (by decide) (TBof tbs_7 _ rfl) rfl ?_
    exact ev_ireturn (TBof tbs_7 _ rfl) (retI_z rt_7 (Or.inr rfl)) ⟨_, rfl, H⟩
set_option maxRecDepth 100000 in
theorem R_X0_readSign_0 {d : Nat} {v1 : Int32} {M : Im} {h : Hm} {D : Dm} {Q : Int32 → Im → Hm → Dm → Prop} (H : (((M 31 1) ≤ (M 31 2)) → (Q 0 M h D)) ∧ (¬ ((M 31 1) ≤ (M 31 2)) → (vp_in (M 31 2) 60 ∧ ((((M 32 ((M 31 2).toNatClampNeg)) = v1) → (Q 1 (up2 M 31 2 ((M 31 2) + 1)) h D)) ∧ (¬ ((M 32 ((M 31 2).toNatClampNeg)) = v1) → (Q 0 M h D)))))) : EvI d nX0_readSign 0 [(0, .ref 31), (1, .int v1)] [] M h D Q := by
  refine ev_aload_n (pc1 := 1) rfl rfl (TBof tbs_8 _ rfl) rfl ?_
  refine ev_getI (pc1 := 4) (ci := 0) (k := 2) (TBof tbs_8 _ rfl) rfl (fldof mo_8 fl_0_32) ltc_31 sh_31 nk_0_2 fi_0_2 ?_
  refine ev_aload_n (pc1 := 5) rfl rfl (TBof tbs_8 _ rfl) rfl ?_
  refine ev_getI (pc1 := 8) (ci := 0) (k := 1) (TBof tbs_8 _ rfl) rfl (fldof mo_8 fl_0_28) ltc_31 sh_31 nk_0_1 fi_0_1 ?_
  refine ev_icmp (pc1 := 11) (t := 24) (TBof tbs_8 _ rfl) (by decide) rfl (fun c1 => ?_) (fun c1 => ?_)
  · replace H := H.1 c1
    refine ev_iconst (pc1 := 25) (x := 0) (by decide) (TBof tbs_8 _ rfl) rfl ?_
    exact ev_ireturn (TBof tbs_8 _ rfl) (retI_z rt_8 (Or.inl rfl)) ⟨_, rfl, H⟩
  · replace H := H.2 c1
    refine ev_aload_n (pc1 := 12) rfl rfl (TBof tbs_8 _ rfl) rfl ?_
    refine ev_getP (pc1 := 15) (ci := 0) (k := 0) (a := 32) (TBof tbs_8 _ rfl) rfl (fldof mo_8 fl_0_9) ltc_31 sh_31 nk_0_0 fp_0_0 (by decide) pf_31_0 ?_
    refine ev_aload_n (pc1 := 16) rfl rfl (TBof tbs_8 _ rfl) rfl ?_
    refine ev_getI (pc1 := 19) (ci := 0) (k := 2) (TBof tbs_8 _ rfl) rfl (fldof mo_8 fl_0_32) ltc_31 sh_31 nk_0_2 fi_0_2 ?_
    refine ev_caload (pc1 := 20) (n := 60) (TBof tbs_8 _ rfl) rfl ltc_32 sh_32 H.1 ?_
    replace H := H.2
    refine ev_iload_n (pc1 := 21) rfl (TBof tbs_8 _ rfl) rfl ?_
    refine ev_icmp (pc1 := 24) (t := 26) (TBof tbs_8 _ rfl) (by decide) rfl (fun c2 => ?_) (fun c2 => ?_)
    · replace H := H.1 c2
      refine ev_aload_n (pc1 := 27) rfl rfl (TBof tbs_8 _ rfl) rfl ?_
      refine ev_dup (pc1 := 28) rfl (TBof tbs_8 _ rfl) rfl ?_
      refine ev_getI (pc1 := 31) (ci := 0) (k := 2) (TBof tbs_8 _ rfl) rfl (fldof mo_8 fl_0_32) ltc_31 sh_31 nk_0_2 fi_0_2 ?_
      refine ev_iconst (pc1 := 32) (x := 1) (by decide) (TBof tbs_8 _ rfl) rfl ?_
      refine ev_iadd (pc1 := 33) (TBof tbs_8 _ rfl) rfl ?_
      refine ev_putI (pc1 := 36) (ci := 0) (k := 2) (TBof tbs_8 _ rfl) rfl (fldof mo_8 fl_0_32) ltc_31 sh_31 nk_0_2 rfl rfl ?_
      refine ev_iconst (pc1 := 37) (x := 1) (by decide) (TBof tbs_8 _ rfl) rfl ?_
      exact ev_ireturn (TBof tbs_8 _ rfl) (retI_z rt_8 (Or.inr rfl)) ⟨_, rfl, H⟩
    · replace H := H.2 c2
      refine ev_iconst (pc1 := 25) (x := 0) (by decide) (TBof tbs_8 _ rfl) rfl ?_
      exact ev_ireturn (TBof tbs_8 _ rfl) (retI_z rt_8 (Or.inl rfl)) ⟨_, rfl, H⟩
set_option maxRecDepth 100000 in
theorem R_X0_readNumber_0 {d : Nat} {M : Im} {h : Hm} {D : Dm} {Q : Int32 → Im → Hm → Dm → Prop} (H : CI d nX0_readDigit [.ref 31, .int 0, .int 9] M h D (fun x1 M1 h1 D1 => ((x1 = 1) → (CI d nX0_readDigit [.ref 31, .int 0, .int 5] M1 h1 D1 (fun x3 M3 h3 D3 => ((¬ (x3 = (-1))) → (Q (10 + x3) M3 h3 D3)) ∧ (¬ (¬ (x3 = (-1))) → (Q x1 M3 h3 D3))))) ∧ (¬ (x1 = 1) → (Q x1 M1 h1 D1)))) : EvI d nX0_readNumber 0 [(0, .ref 31)] [] M h D Q := by
  refine ev_aload_n (pc1 := 1) rfl rfl (TBof tbs_9 _ rfl) rfl ?_
  refine ev_iconst (pc1 := 2) (x := 0) (by decide) (TBof tbs_9 _ rfl) rfl ?_
  refine ev_bipush (pc1 := 4) (x := 9) (by decide) (TBof tbs_9 _ rfl) rfl ?_
  refine ev_callvI (pc1 := 7) (as := [.int 0, .int 9]) (r := []) (TBof tbs_9 _ rfl) rfl (lnkof mo_9 ln_0_59) rfl na_10 ltc_31 (sh_31.trans (by rw [mo_10])) (Nat.le_of_ble_eq_true rfl) H (fun x1 M1 h1 D1 H => ?_)
  refine ev_istore_n (pc1 := 8) (L1 := [(1, .int x1), (0, .ref 31)]) (by rw [ml_9]; decide) rfl (TBof tbs_9 _ rfl) rfl ?_
  refine ev_iload_n (pc1 := 9) rfl (TBof tbs_9 _ rfl) rfl ?_
  refine ev_iconst (pc1 := 10) (x := 1) (by decide) (TBof tbs_9 _ rfl) rfl ?_
  refine ev_icmp (pc1 := 13) (t := 15) (TBof tbs_9 _ rfl) (by decide) rfl (fun c2 => ?_) (fun c2 => ?_)
  · replace H := H.1 c2
    refine ev_aload_n (pc1 := 16) rfl rfl (TBof tbs_9 _ rfl) rfl ?_
    refine ev_iconst (pc1 := 17) (x := 0) (by decide) (TBof tbs_9 _ rfl) rfl ?_
    refine ev_iconst (pc1 := 18) (x := 5) (by decide) (TBof tbs_9 _ rfl) rfl ?_
    refine ev_callvI (pc1 := 21) (as := [.int 0, .int 5]) (r := []) (TBof tbs_9 _ rfl) rfl (lnkof mo_9 ln_0_59) rfl na_10 ltc_31 (sh_31.trans (by rw [mo_10])) (Nat.le_of_ble_eq_true rfl) H (fun x3 M3 h3 D3 H => ?_)
    refine ev_istore_n (pc1 := 22) (L1 := [(2, .int x3), (1, .int x1), (0, .ref 31)]) (by rw [ml_9]; decide) rfl (TBof tbs_9 _ rfl) rfl ?_
    refine ev_iload_n (pc1 := 23) rfl (TBof tbs_9 _ rfl) rfl ?_
    refine ev_iconst (pc1 := 24) (x := (-1)) (by decide) (TBof tbs_9 _ rfl) rfl ?_
    refine ev_icmp (pc1 := 27) (t := 31) (TBof tbs_9 _ rfl) (by decide) rfl (fun c4 => ?_) (fun c4 => ?_)
    · replace H := H.1 c4
      refine ev_bipush (pc1 := 33) (x := 10) (by decide) (TBof tbs_9 _ rfl) rfl ?_
      refine ev_iload_n (pc1 := 34) rfl (TBof tbs_9 _ rfl) rfl ?_
      refine ev_iadd (pc1 := 35) (TBof tbs_9 _ rfl) rfl ?_
      exact ev_ireturn (TBof tbs_9 _ rfl) (retI_i rt_9) ⟨_, rfl, H⟩
    · replace H := H.2 c4
      refine ev_iload_n (pc1 := 28) rfl (TBof tbs_9 _ rfl) rfl ?_
      refine ev_goto (pc1 := 35) (TBof tbs_9 _ rfl) (by decide) ?_
      exact ev_ireturn (TBof tbs_9 _ rfl) (retI_i rt_9) ⟨_, rfl, H⟩
  · replace H := H.2 c2
    refine ev_iload_n (pc1 := 14) rfl (TBof tbs_9 _ rfl) rfl ?_
    exact ev_ireturn (TBof tbs_9 _ rfl) (retI_i rt_9) ⟨_, rfl, H⟩
set_option maxRecDepth 100000 in
theorem R_X0_readDigit_0 {d : Nat} {v1 v2 : Int32} {M : Im} {h : Hm} {D : Dm} {Q : Int32 → Im → Hm → Dm → Prop} (H : (((M 31 2) < (M 31 1)) → (vp_in (M 31 2) 60 ∧ (((((M 32 ((M 31 2).toNatClampNeg)) - 48) < v1) → (Q (-1) M h D)) ∧ (¬ (((M 32 ((M 31 2).toNatClampNeg)) - 48) < v1) → (((((M 32 ((M 31 2).toNatClampNeg)) - 48) ≤ v2) → (Q ((M 32 ((M 31 2).toNatClampNeg)) - 48) (up2 M 31 2 ((M 31 2) + 1)) h D)) ∧ (¬ (((M 32 ((M 31 2).toNatClampNeg)) - 48) ≤ v2) → (Q (-1) M h D))))))) ∧ (¬ ((M 31 2) < (M 31 1)) → (Q (-1) M h D))) : EvI d nX0_readDigit 0 [(0, .ref 31), (1, .int v1), (2, .int v2)] [] M h D Q := by
  refine ev_aload_n (pc1 := 1) rfl rfl (TBof tbs_10 _ rfl) rfl ?_
  refine ev_getI (pc1 := 4) (ci := 0) (k := 2) (TBof tbs_10 _ rfl) rfl (fldof mo_10 fl_0_32) ltc_31 sh_31 nk_0_2 fi_0_2 ?_
  refine ev_aload_n (pc1 := 5) rfl rfl (TBof tbs_10 _ rfl) rfl ?_
  refine ev_getI (pc1 := 8) (ci := 0) (k := 1) (TBof tbs_10 _ rfl) rfl (fldof mo_10 fl_0_28) ltc_31 sh_31 nk_0_1 fi_0_1 ?_
  refine ev_icmp (pc1 := 11) (t := 13) (TBof tbs_10 _ rfl) (by decide) rfl (fun c1 => ?_) (fun c1 => ?_)
  · replace H := H.1 c1
    refine ev_aload_n (pc1 := 14) rfl rfl (TBof tbs_10 _ rfl) rfl ?_
    refine ev_getP (pc1 := 17) (ci := 0) (k := 0) (a := 32) (TBof tbs_10 _ rfl) rfl (fldof mo_10 fl_0_9) ltc_31 sh_31 nk_0_0 fp_0_0 (by decide) pf_31_0 ?_
    refine ev_aload_n (pc1 := 18) rfl rfl (TBof tbs_10 _ rfl) rfl ?_
    refine ev_getI (pc1 := 21) (ci := 0) (k := 2) (TBof tbs_10 _ rfl) rfl (fldof mo_10 fl_0_32) ltc_31 sh_31 nk_0_2 fi_0_2 ?_
    refine ev_caload (pc1 := 22) (n := 60) (TBof tbs_10 _ rfl) rfl ltc_32 sh_32 H.1 ?_
    replace H := H.2
    refine ev_bipush (pc1 := 24) (x := 48) (by decide) (TBof tbs_10 _ rfl) rfl ?_
    refine ev_isub (pc1 := 25) (TBof tbs_10 _ rfl) rfl ?_
    refine ev_istore_n (pc1 := 26) (L1 := [(3, .int ((M 32 ((M 31 2).toNatClampNeg)) - 48)), (0, .ref 31), (1, .int v1), (2, .int v2)]) (by rw [ml_10]; decide) rfl (TBof tbs_10 _ rfl) rfl ?_
    refine ev_iload_n (pc1 := 27) rfl (TBof tbs_10 _ rfl) rfl ?_
    refine ev_iload_n (pc1 := 28) rfl (TBof tbs_10 _ rfl) rfl ?_
    refine ev_icmp (pc1 := 31) (t := 36) (TBof tbs_10 _ rfl) (by decide) rfl (fun c2 => ?_) (fun c2 => ?_)
    · replace H := H.1 c2
      refine ev_iconst (pc1 := 37) (x := (-1)) (by decide) (TBof tbs_10 _ rfl) rfl ?_
      exact ev_ireturn (TBof tbs_10 _ rfl) (retI_i rt_10) ⟨_, rfl, H⟩
    · replace H := H.2 c2
      refine ev_iload_n (pc1 := 32) rfl (TBof tbs_10 _ rfl) rfl ?_
      refine ev_iload_n (pc1 := 33) rfl (TBof tbs_10 _ rfl) rfl ?_
      refine ev_icmp (pc1 := 36) (t := 38) (TBof tbs_10 _ rfl) (by decide) rfl (fun c3 => ?_) (fun c3 => ?_)
      · replace H := H.1 c3
        refine ev_aload_n (pc1 := 39) rfl rfl (TBof tbs_10 _ rfl) rfl ?_
        refine ev_dup (pc1 := 40) rfl (TBof tbs_10 _ rfl) rfl ?_
        refine ev_getI (pc1 := 43) (ci := 0) (k := 2) (TBof tbs_10 _ rfl) rfl (fldof mo_10 fl_0_32) ltc_31 sh_31 nk_0_2 fi_0_2 ?_
        refine ev_iconst (pc1 := 44) (x := 1) (by decide) (TBof tbs_10 _ rfl) rfl ?_
        refine ev_iadd (pc1 := 45) (TBof tbs_10 _ rfl) rfl ?_
        refine ev_putI (pc1 := 48) (ci := 0) (k := 2) (TBof tbs_10 _ rfl) rfl (fldof mo_10 fl_0_32) ltc_31 sh_31 nk_0_2 rfl rfl ?_
        refine ev_iload_n (pc1 := 49) rfl (TBof tbs_10 _ rfl) rfl ?_
        exact ev_ireturn (TBof tbs_10 _ rfl) (retI_i rt_10) ⟨_, rfl, H⟩
      · replace H := H.2 c3
        refine ev_iconst (pc1 := 37) (x := (-1)) (by decide) (TBof tbs_10 _ rfl) rfl ?_
        exact ev_ireturn (TBof tbs_10 _ rfl) (retI_i rt_10) ⟨_, rfl, H⟩
  · replace H := H.2 c1
    refine ev_iconst (pc1 := 12) (x := (-1)) (by decide) (TBof tbs_10 _ rfl) rfl ?_
    exact ev_ireturn (TBof tbs_10 _ rfl) (retI_i rt_10) ⟨_, rfl, H⟩

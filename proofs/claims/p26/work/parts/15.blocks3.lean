/-! what each block of code asks: class 3 -/
set_option maxRecDepth 100000 in
theorem R_X3_build_0 {d : Nat} {v1 v2 v3 v4 : Int32} {M : Im} {h : Hm} {D : Dm} {Q : Int32 → Im → Hm → Dm → Prop} (H : ((v1 = (-5)) → (EvI d nX3_build 19 [(0, .ref 0), (1, .int v1), (2, .int v2), (3, .int v3), (4, .int v4)] [] M h D Q)) ∧ (¬ (v1 = (-5)) → (CI d nX2_isThere [.ref 1, .int v1] M h D (fun x2 M2 h2 D2 => ((¬ (x2 = 0)) → (EvI d nX3_build 19 [(0, .ref 0), (1, .int v1), (2, .int v2), (3, .int v3), (4, .int v4)] [] M2 h2 D2 Q)) ∧ (¬ (¬ (x2 = 0)) → (Q (-1) M2 h2 D2)))))) : EvI d nX3_build 0 [(0, .ref 0), (1, .int v1), (2, .int v2), (3, .int v3), (4, .int v4)] [] M h D Q := by
  refine ev_iload_n (pc1 := 1) rfl (TBof tbs_39 _ rfl) rfl ?_
  refine ev_bipush (pc1 := 3) (x := (-5)) (by decide) (TBof tbs_39 _ rfl) rfl ?_
  refine ev_icmp (pc1 := 6) (t := 19) (TBof tbs_39 _ rfl) (by decide) rfl (fun c1 => ?_) (fun c1 => ?_)
  · replace H := H.1 c1
    exact ev_le [0, 1, 2, 3, 4] rfl rfl H
  · replace H := H.2 c1
    refine ev_aload_n (pc1 := 7) rfl rfl (TBof tbs_39 _ rfl) rfl ?_
    refine ev_getP (pc1 := 10) (ci := 3) (k := 0) (a := 1) (TBof tbs_39 _ rfl) rfl (fldof mo_39 fl_3_12) ltc_0 sh_0 nk_3_0 fp_3_0 (by decide) pf_0_0 ?_
    refine ev_iload_n (pc1 := 11) rfl (TBof tbs_39 _ rfl) rfl ?_
    refine ev_callvI (pc1 := 14) (as := [.int v1]) (r := []) (TBof tbs_39 _ rfl) rfl (lnkof mo_39 ln_3_48) rfl na_18 ltc_1 (sh_1.trans (by rw [mo_18])) (Nat.le_of_ble_eq_true rfl) H (fun x2 M2 h2 D2 H => ?_)
    refine ev_if (pc1 := 17) (t := 19) (TBof tbs_39 _ rfl) (by decide) rfl (fun c3 => ?_) (fun c3 => ?_)
    · replace H := H.1 c3
      exact ev_le [0, 1, 2, 3, 4] rfl rfl H
    · replace H := H.2 c3
      refine ev_iconst (pc1 := 18) (x := (-1)) (by decide) (TBof tbs_39 _ rfl) rfl ?_
      exact ev_ireturn (TBof tbs_39 _ rfl) (retI_i rt_39) ⟨_, rfl, H⟩
set_option maxRecDepth 100000 in
theorem R_X3_build_19 {d : Nat} {v1 v2 v3 v4 : Int32} {M : Im} {h : Hm} {D : Dm} {Q : Int32 → Im → Hm → Dm → Prop} (H : CI d nX3_isHold [.int v2, .int v3] M h D (fun x1 M1 h1 D1 => ((x1 = 0) → (Q (-2) M1 h1 D1)) ∧ (¬ (x1 = 0) → (((v4 < 0) → (Q (-2) M1 h1 D1)) ∧ (¬ (v4 < 0) → (((v4 ≤ 9) → ((((M1 1 0) < 16) → ((((M1 1 1) = 0) → (CV d nX3_recordState [.ref 0] M1 h1 D1 (fun M7 h7 D7 => CV d nX2_addDrawer [.ref 1, .int v1, .int v2, .int v3, .int v4, .int 0] M7 h7 D7 (fun M8 h8 D8 => Q ((M8 1 0) - 1) M8 h8 D8)))) ∧ (¬ ((M1 1 1) = 0) → (Q (-4) M1 h1 D1)))) ∧ (¬ ((M1 1 0) < 16) → (Q (-3) M1 h1 D1)))) ∧ (¬ (v4 ≤ 9) → (Q (-2) M1 h1 D1)))))))) : EvI d nX3_build 19 [(0, .ref 0), (1, .int v1), (2, .int v2), (3, .int v3), (4, .int v4)] [] M h D Q := by
  refine ev_iload_n (pc1 := 20) rfl (TBof tbs_39 _ rfl) rfl ?_
  refine ev_iload_n (pc1 := 21) rfl (TBof tbs_39 _ rfl) rfl ?_
  refine ev_callsI (pc1 := 24) (as := [.int v2, .int v3]) (r := []) (TBof tbs_39 _ rfl) rfl (lnkof mo_39 ln_3_52) (Or.inl rfl) rfl na_57 (Nat.le_of_ble_eq_true rfl) H (fun x1 M1 h1 D1 H => ?_)
  refine ev_if (pc1 := 27) (t := 39) (TBof tbs_39 _ rfl) (by decide) rfl (fun c2 => ?_) (fun c2 => ?_)
  · replace H := H.1 c2
    refine ev_bipush (pc1 := 41) (x := (-2)) (by decide) (TBof tbs_39 _ rfl) rfl ?_
    exact ev_ireturn (TBof tbs_39 _ rfl) (retI_i rt_39) ⟨_, rfl, H⟩
  · replace H := H.2 c2
    refine ev_iload (pc1 := 29) rfl (TBof tbs_39 _ rfl) rfl ?_
    refine ev_if (pc1 := 32) (t := 39) (TBof tbs_39 _ rfl) (by decide) rfl (fun c3 => ?_) (fun c3 => ?_)
    · replace H := H.1 c3
      refine ev_bipush (pc1 := 41) (x := (-2)) (by decide) (TBof tbs_39 _ rfl) rfl ?_
      exact ev_ireturn (TBof tbs_39 _ rfl) (retI_i rt_39) ⟨_, rfl, H⟩
    · replace H := H.2 c3
      refine ev_iload (pc1 := 34) rfl (TBof tbs_39 _ rfl) rfl ?_
      refine ev_bipush (pc1 := 36) (x := 9) (by decide) (TBof tbs_39 _ rfl) rfl ?_
      refine ev_icmp (pc1 := 39) (t := 42) (TBof tbs_39 _ rfl) (by decide) rfl (fun c4 => ?_) (fun c4 => ?_)
      · replace H := H.1 c4
        refine ev_aload_n (pc1 := 43) rfl rfl (TBof tbs_39 _ rfl) rfl ?_
        refine ev_getP (pc1 := 46) (ci := 3) (k := 0) (a := 1) (TBof tbs_39 _ rfl) rfl (fldof mo_39 fl_3_12) ltc_0 sh_0 nk_3_0 fp_3_0 (by decide) pf_0_0 ?_
        refine ev_getI (pc1 := 49) (ci := 2) (k := 0) (TBof tbs_39 _ rfl) rfl (fldof mo_39 fl_3_56) ltc_1 sh_1 nk_2_0 fi_2_0 ?_
        refine ev_bipush (pc1 := 51) (x := 16) (by decide) (TBof tbs_39 _ rfl) rfl ?_
        refine ev_icmp (pc1 := 54) (t := 57) (TBof tbs_39 _ rfl) (by decide) rfl (fun c5 => ?_) (fun c5 => ?_)
        · replace H := H.1 c5
          refine ev_aload_n (pc1 := 58) rfl rfl (TBof tbs_39 _ rfl) rfl ?_
          refine ev_getP (pc1 := 61) (ci := 3) (k := 0) (a := 1) (TBof tbs_39 _ rfl) rfl (fldof mo_39 fl_3_12) ltc_0 sh_0 nk_3_0 fp_3_0 (by decide) pf_0_0 ?_
          refine ev_getI (pc1 := 64) (ci := 2) (k := 1) (TBof tbs_39 _ rfl) rfl (fldof mo_39 fl_3_59) ltc_1 sh_1 nk_2_1 fi_2_1 ?_
          refine ev_if (pc1 := 67) (t := 70) (TBof tbs_39 _ rfl) (by decide) rfl (fun c6 => ?_) (fun c6 => ?_)
          · replace H := H.1 c6
            refine ev_aload_n (pc1 := 71) rfl rfl (TBof tbs_39 _ rfl) rfl ?_
            refine ev_callvV (pc1 := 74) (as := []) (r := []) (TBof tbs_39 _ rfl) rfl (lnkof mo_39 ln_3_62) rfl na_63 ltc_0 (sh_0.trans (by rw [mo_63])) (Nat.le_of_ble_eq_true rfl) H (fun M7 h7 D7 H => ?_)
            refine ev_aload_n (pc1 := 75) rfl rfl (TBof tbs_39 _ rfl) rfl ?_
            refine ev_getP (pc1 := 78) (ci := 3) (k := 0) (a := 1) (TBof tbs_39 _ rfl) rfl (fldof mo_39 fl_3_12) ltc_0 sh_0 nk_3_0 fp_3_0 (by decide) pf_0_0 ?_
            refine ev_iload_n (pc1 := 79) rfl (TBof tbs_39 _ rfl) rfl ?_
            refine ev_iload_n (pc1 := 80) rfl (TBof tbs_39 _ rfl) rfl ?_
            refine ev_iload_n (pc1 := 81) rfl (TBof tbs_39 _ rfl) rfl ?_
            refine ev_iload (pc1 := 83) rfl (TBof tbs_39 _ rfl) rfl ?_
            refine ev_iconst (pc1 := 84) (x := 0) (by decide) (TBof tbs_39 _ rfl) rfl ?_
            refine ev_callvV (pc1 := 87) (as := [.int v1, .int v2, .int v3, .int v4, .int 0]) (r := []) (TBof tbs_39 _ rfl) rfl (lnkof mo_39 ln_3_65) rfl na_15 ltc_1 (sh_1.trans (by rw [mo_15])) (Nat.le_of_ble_eq_true rfl) H (fun M8 h8 D8 H => ?_)
            refine ev_aload_n (pc1 := 88) rfl rfl (TBof tbs_39 _ rfl) rfl ?_
            refine ev_getP (pc1 := 91) (ci := 3) (k := 0) (a := 1) (TBof tbs_39 _ rfl) rfl (fldof mo_39 fl_3_12) ltc_0 sh_0 nk_3_0 fp_3_0 (by decide) pf_0_0 ?_
            refine ev_getI (pc1 := 94) (ci := 2) (k := 0) (TBof tbs_39 _ rfl) rfl (fldof mo_39 fl_3_56) ltc_1 sh_1 nk_2_0 fi_2_0 ?_
            refine ev_iconst (pc1 := 95) (x := 1) (by decide) (TBof tbs_39 _ rfl) rfl ?_
            refine ev_isub (pc1 := 96) (TBof tbs_39 _ rfl) rfl ?_
            exact ev_ireturn (TBof tbs_39 _ rfl) (retI_i rt_39) ⟨_, rfl, H⟩
          · replace H := H.2 c6
            refine ev_bipush (pc1 := 69) (x := (-4)) (by decide) (TBof tbs_39 _ rfl) rfl ?_
            exact ev_ireturn (TBof tbs_39 _ rfl) (retI_i rt_39) ⟨_, rfl, H⟩
        · replace H := H.2 c5
          refine ev_bipush (pc1 := 56) (x := (-3)) (by decide) (TBof tbs_39 _ rfl) rfl ?_
          exact ev_ireturn (TBof tbs_39 _ rfl) (retI_i rt_39) ⟨_, rfl, H⟩
      · replace H := H.2 c4
        refine ev_bipush (pc1 := 41) (x := (-2)) (by decide) (TBof tbs_39 _ rfl) rfl ?_
        exact ev_ireturn (TBof tbs_39 _ rfl) (retI_i rt_39) ⟨_, rfl, H⟩
set_option maxRecDepth 100000 in
theorem R_X3_setBottoms_0 {d : Nat} {v1 v2 : Int32} {M : Im} {h : Hm} {D : Dm} {Q : Int32 → Im → Hm → Dm → Prop} (H : CI d nX2_isThere [.ref 1, .int v1] M h D (fun x1 M1 h1 D1 => ((¬ (x1 = 0)) → (((v2 < 0) → (Q (-2) M1 h1 D1)) ∧ (¬ (v2 < 0) → (((v2 ≤ 3) → ((((M1 1 1) = 0) → (vp_in v1 16 ∧ (((¬ ((M1 6 (v1.toNatClampNeg)) = v2)) → (CV d nX3_recordState [.ref 0] M1 h1 D1 (fun M7 h7 D7 => CV d nX2_changeBottoms [.ref 1, .int v1, .int v2] M7 h7 D7 (fun M8 h8 D8 => Q (M1 6 (v1.toNatClampNeg)) M8 h8 D8)))) ∧ (¬ (¬ ((M1 6 (v1.toNatClampNeg)) = v2)) → (Q (-5) M1 h1 D1))))) ∧ (¬ ((M1 1 1) = 0) → (Q (-4) M1 h1 D1)))) ∧ (¬ (v2 ≤ 3) → (Q (-2) M1 h1 D1)))))) ∧ (¬ (¬ (x1 = 0)) → (Q (-1) M1 h1 D1)))) : EvI d nX3_setBottoms 0 [(0, .ref 0), (1, .int v1), (2, .int v2)] [] M h D Q := by
  refine ev_aload_n (pc1 := 1) rfl rfl (TBof tbs_40 _ rfl) rfl ?_
  refine ev_getP (pc1 := 4) (ci := 3) (k := 0) (a := 1) (TBof tbs_40 _ rfl) rfl (fldof mo_40 fl_3_12) ltc_0 sh_0 nk_3_0 fp_3_0 (by decide) pf_0_0 ?_
  refine ev_iload_n (pc1 := 5) rfl (TBof tbs_40 _ rfl) rfl ?_
  refine ev_callvI (pc1 := 8) (as := [.int v1]) (r := []) (TBof tbs_40 _ rfl) rfl (lnkof mo_40 ln_3_48) rfl na_18 ltc_1 (sh_1.trans (by rw [mo_18])) (Nat.le_of_ble_eq_true rfl) H (fun x1 M1 h1 D1 H => ?_)
  refine ev_if (pc1 := 11) (t := 13) (TBof tbs_40 _ rfl) (by decide) rfl (fun c2 => ?_) (fun c2 => ?_)
  · replace H := H.1 c2
    refine ev_iload_n (pc1 := 14) rfl (TBof tbs_40 _ rfl) rfl ?_
    refine ev_if (pc1 := 17) (t := 22) (TBof tbs_40 _ rfl) (by decide) rfl (fun c3 => ?_) (fun c3 => ?_)
    · replace H := H.1 c3
      refine ev_bipush (pc1 := 24) (x := (-2)) (by decide) (TBof tbs_40 _ rfl) rfl ?_
      exact ev_ireturn (TBof tbs_40 _ rfl) (retI_i rt_40) ⟨_, rfl, H⟩
    · replace H := H.2 c3
      refine ev_iload_n (pc1 := 18) rfl (TBof tbs_40 _ rfl) rfl ?_
      refine ev_iconst (pc1 := 19) (x := 3) (by decide) (TBof tbs_40 _ rfl) rfl ?_
      refine ev_icmp (pc1 := 22) (t := 25) (TBof tbs_40 _ rfl) (by decide) rfl (fun c4 => ?_) (fun c4 => ?_)
      · replace H := H.1 c4
        refine ev_aload_n (pc1 := 26) rfl rfl (TBof tbs_40 _ rfl) rfl ?_
        refine ev_getP (pc1 := 29) (ci := 3) (k := 0) (a := 1) (TBof tbs_40 _ rfl) rfl (fldof mo_40 fl_3_12) ltc_0 sh_0 nk_3_0 fp_3_0 (by decide) pf_0_0 ?_
        refine ev_getI (pc1 := 32) (ci := 2) (k := 1) (TBof tbs_40 _ rfl) rfl (fldof mo_40 fl_3_59) ltc_1 sh_1 nk_2_1 fi_2_1 ?_
        refine ev_if (pc1 := 35) (t := 38) (TBof tbs_40 _ rfl) (by decide) rfl (fun c5 => ?_) (fun c5 => ?_)
        · replace H := H.1 c5
          refine ev_aload_n (pc1 := 39) rfl rfl (TBof tbs_40 _ rfl) rfl ?_
          refine ev_getP (pc1 := 42) (ci := 3) (k := 0) (a := 1) (TBof tbs_40 _ rfl) rfl (fldof mo_40 fl_3_12) ltc_0 sh_0 nk_3_0 fp_3_0 (by decide) pf_0_0 ?_
          refine ev_getP (pc1 := 45) (ci := 2) (k := 11) (a := 6) (TBof tbs_40 _ rfl) rfl (fldof mo_40 fl_3_92) ltc_1 sh_1 nk_2_11 fp_2_11 (by decide) pf_1_11 ?_
          refine ev_iload_n (pc1 := 46) rfl (TBof tbs_40 _ rfl) rfl ?_
          refine ev_iaload (pc1 := 47) (n := 16) (TBof tbs_40 _ rfl) rfl ltc_6 sh_6 H.1 ?_
          replace H := H.2
          refine ev_istore_n (pc1 := 48) (L1 := [(3, .int (M1 6 (v1.toNatClampNeg))), (0, .ref 0), (1, .int v1), (2, .int v2)]) (by rw [ml_40]; decide) rfl (TBof tbs_40 _ rfl) rfl ?_
          refine ev_iload_n (pc1 := 49) rfl (TBof tbs_40 _ rfl) rfl ?_
          refine ev_iload_n (pc1 := 50) rfl (TBof tbs_40 _ rfl) rfl ?_
          refine ev_icmp (pc1 := 53) (t := 56) (TBof tbs_40 _ rfl) (by decide) rfl (fun c6 => ?_) (fun c6 => ?_)
          · replace H := H.1 c6
            refine ev_aload_n (pc1 := 57) rfl rfl (TBof tbs_40 _ rfl) rfl ?_
            refine ev_callvV (pc1 := 60) (as := []) (r := []) (TBof tbs_40 _ rfl) rfl (lnkof mo_40 ln_3_62) rfl na_63 ltc_0 (sh_0.trans (by rw [mo_63])) (Nat.le_of_ble_eq_true rfl) H (fun M7 h7 D7 H => ?_)
            refine ev_aload_n (pc1 := 61) rfl rfl (TBof tbs_40 _ rfl) rfl ?_
            refine ev_getP (pc1 := 64) (ci := 3) (k := 0) (a := 1) (TBof tbs_40 _ rfl) rfl (fldof mo_40 fl_3_12) ltc_0 sh_0 nk_3_0 fp_3_0 (by decide) pf_0_0 ?_
            refine ev_iload_n (pc1 := 65) rfl (TBof tbs_40 _ rfl) rfl ?_
            refine ev_iload_n (pc1 := 66) rfl (TBof tbs_40 _ rfl) rfl ?_
            refine ev_callvV (pc1 := 69) (as := [.int v1, .int v2]) (r := []) (TBof tbs_40 _ rfl) rfl (lnkof mo_40 ln_3_93) rfl na_16 ltc_1 (sh_1.trans (by rw [mo_16])) (Nat.le_of_ble_eq_true rfl) H (fun M8 h8 D8 H => ?_)
            refine ev_iload_n (pc1 := 70) rfl (TBof tbs_40 _ rfl) rfl ?_
            exact ev_ireturn (TBof tbs_40 _ rfl) (retI_i rt_40) ⟨_, rfl, H⟩
          · replace H := H.2 c6
            refine ev_bipush (pc1 := 55) (x := (-5)) (by decide) (TBof tbs_40 _ rfl) rfl ?_
            exact ev_ireturn (TBof tbs_40 _ rfl) (retI_i rt_40) ⟨_, rfl, H⟩
        · replace H := H.2 c5
          refine ev_bipush (pc1 := 37) (x := (-4)) (by decide) (TBof tbs_40 _ rfl) rfl ?_
          exact ev_ireturn (TBof tbs_40 _ rfl) (retI_i rt_40) ⟨_, rfl, H⟩
      · replace H := H.2 c4
        refine ev_bipush (pc1 := 24) (x := (-2)) (by decide) (TBof tbs_40 _ rfl) rfl ?_
        exact ev_ireturn (TBof tbs_40 _ rfl) (retI_i rt_40) ⟨_, rfl, H⟩
  · replace H := H.2 c2
    refine ev_iconst (pc1 := 12) (x := (-1)) (by decide) (TBof tbs_40 _ rfl) rfl ?_
    exact ev_ireturn (TBof tbs_40 _ rfl) (retI_i rt_40) ⟨_, rfl, H⟩
set_option maxRecDepth 100000 in
theorem R_X3_lay_0 {d : Nat} {v1 v2 v3 : Int32} {M : Im} {h : Hm} {D : Dm} {Q : Int32 → Im → Hm → Dm → Prop} (H : CI d nX3_isThing [.int v1] M h D (fun x1 M1 h1 D1 => ((x1 = 0) → (Q (-1) M1 h1 D1)) ∧ (¬ (x1 = 0) → (((v2 = (-5)) → (((¬ (v2 = (-5))) → (vp_in v2 16 ∧ (EvI d nX3_lay 45 [(0, .ref 0), (1, .int v1), (2, .int v2), (3, .int v3)] [.int (M1 6 (v2.toNatClampNeg))] M1 h1 D1 Q))) ∧ (¬ (¬ (v2 = (-5))) → (EvI d nX3_lay 45 [(0, .ref 0), (1, .int v1), (2, .int v2), (3, .int v3)] [.int 0] M1 h1 D1 Q)))) ∧ (¬ (v2 = (-5)) → (CI d nX2_isThere [.ref 1, .int v2] M1 h1 D1 (fun x5 M5 h5 D5 => ((¬ (x5 = 0)) → (((¬ (v2 = (-5))) → (vp_in v2 16 ∧ (EvI d nX3_lay 45 [(0, .ref 0), (1, .int v1), (2, .int v2), (3, .int v3)] [.int (M5 6 (v2.toNatClampNeg))] M5 h5 D5 Q))) ∧ (¬ (¬ (v2 = (-5))) → (EvI d nX3_lay 45 [(0, .ref 0), (1, .int v1), (2, .int v2), (3, .int v3)] [.int 0] M5 h5 D5 Q)))) ∧ (¬ (¬ (x5 = 0)) → (Q (-1) M5 h5 D5))))))))) : EvI d nX3_lay 0 [(0, .ref 0), (1, .int v1), (2, .int v2), (3, .int v3)] [] M h D Q := by
  refine ev_iload_n (pc1 := 1) rfl (TBof tbs_41 _ rfl) rfl ?_
  refine ev_callsI (pc1 := 4) (as := [.int v1]) (r := []) (TBof tbs_41 _ rfl) rfl (lnkof mo_41 ln_3_97) (Or.inl rfl) rfl na_58 (Nat.le_of_ble_eq_true rfl) H (fun x1 M1 h1 D1 H => ?_)
  refine ev_if (pc1 := 7) (t := 24) (TBof tbs_41 _ rfl) (by decide) rfl (fun c2 => ?_) (fun c2 => ?_)
  · replace H := H.1 c2
    refine ev_iconst (pc1 := 25) (x := (-1)) (by decide) (TBof tbs_41 _ rfl) rfl ?_
    exact ev_ireturn (TBof tbs_41 _ rfl) (retI_i rt_41) ⟨_, rfl, H⟩
  · replace H := H.2 c2
    refine ev_iload_n (pc1 := 8) rfl (TBof tbs_41 _ rfl) rfl ?_
    refine ev_bipush (pc1 := 10) (x := (-5)) (by decide) (TBof tbs_41 _ rfl) rfl ?_
    refine ev_icmp (pc1 := 13) (t := 26) (TBof tbs_41 _ rfl) (by decide) rfl (fun c3 => ?_) (fun c3 => ?_)
    · replace H := H.1 c3
      refine ev_iload_n (pc1 := 27) rfl (TBof tbs_41 _ rfl) rfl ?_
      refine ev_bipush (pc1 := 29) (x := (-5)) (by decide) (TBof tbs_41 _ rfl) rfl ?_
      refine ev_icmp (pc1 := 32) (t := 36) (TBof tbs_41 _ rfl) (by decide) rfl (fun c4 => ?_) (fun c4 => ?_)
      · replace H := H.1 c4
        refine ev_aload_n (pc1 := 37) rfl rfl (TBof tbs_41 _ rfl) rfl ?_
        refine ev_getP (pc1 := 40) (ci := 3) (k := 0) (a := 1) (TBof tbs_41 _ rfl) rfl (fldof mo_41 fl_3_12) ltc_0 sh_0 nk_3_0 fp_3_0 (by decide) pf_0_0 ?_
        refine ev_getP (pc1 := 43) (ci := 2) (k := 11) (a := 6) (TBof tbs_41 _ rfl) rfl (fldof mo_41 fl_3_92) ltc_1 sh_1 nk_2_11 fp_2_11 (by decide) pf_1_11 ?_
        refine ev_iload_n (pc1 := 44) rfl (TBof tbs_41 _ rfl) rfl ?_
        refine ev_iaload (pc1 := 45) (n := 16) (TBof tbs_41 _ rfl) rfl ltc_6 sh_6 H.1 ?_
        replace H := H.2
        exact ev_le [0, 1, 2, 3] rfl rfl H
      · replace H := H.2 c4
        refine ev_iconst (pc1 := 33) (x := 0) (by decide) (TBof tbs_41 _ rfl) rfl ?_
        refine ev_goto (pc1 := 45) (TBof tbs_41 _ rfl) (by decide) ?_
        exact ev_le [0, 1, 2, 3] rfl rfl H
    · replace H := H.2 c3
      refine ev_aload_n (pc1 := 14) rfl rfl (TBof tbs_41 _ rfl) rfl ?_
      refine ev_getP (pc1 := 17) (ci := 3) (k := 0) (a := 1) (TBof tbs_41 _ rfl) rfl (fldof mo_41 fl_3_12) ltc_0 sh_0 nk_3_0 fp_3_0 (by decide) pf_0_0 ?_
      refine ev_iload_n (pc1 := 18) rfl (TBof tbs_41 _ rfl) rfl ?_
      refine ev_callvI (pc1 := 21) (as := [.int v2]) (r := []) (TBof tbs_41 _ rfl) rfl (lnkof mo_41 ln_3_48) rfl na_18 ltc_1 (sh_1.trans (by rw [mo_18])) (Nat.le_of_ble_eq_true rfl) H (fun x5 M5 h5 D5 H => ?_)
      refine ev_if (pc1 := 24) (t := 26) (TBof tbs_41 _ rfl) (by decide) rfl (fun c6 => ?_) (fun c6 => ?_)
      · replace H := H.1 c6
        refine ev_iload_n (pc1 := 27) rfl (TBof tbs_41 _ rfl) rfl ?_
        refine ev_bipush (pc1 := 29) (x := (-5)) (by decide) (TBof tbs_41 _ rfl) rfl ?_
        refine ev_icmp (pc1 := 32) (t := 36) (TBof tbs_41 _ rfl) (by decide) rfl (fun c7 => ?_) (fun c7 => ?_)
        · replace H := H.1 c7
          refine ev_aload_n (pc1 := 37) rfl rfl (TBof tbs_41 _ rfl) rfl ?_
          refine ev_getP (pc1 := 40) (ci := 3) (k := 0) (a := 1) (TBof tbs_41 _ rfl) rfl (fldof mo_41 fl_3_12) ltc_0 sh_0 nk_3_0 fp_3_0 (by decide) pf_0_0 ?_
          refine ev_getP (pc1 := 43) (ci := 2) (k := 11) (a := 6) (TBof tbs_41 _ rfl) rfl (fldof mo_41 fl_3_92) ltc_1 sh_1 nk_2_11 fp_2_11 (by decide) pf_1_11 ?_
          refine ev_iload_n (pc1 := 44) rfl (TBof tbs_41 _ rfl) rfl ?_
          refine ev_iaload (pc1 := 45) (n := 16) (TBof tbs_41 _ rfl) rfl ltc_6 sh_6 H.1 ?_
          replace H := H.2
          exact ev_le [0, 1, 2, 3] rfl rfl H
        · replace H := H.2 c7
          refine ev_iconst (pc1 := 33) (x := 0) (by decide) (TBof tbs_41 _ rfl) rfl ?_
          refine ev_goto (pc1 := 45) (TBof tbs_41 _ rfl) (by decide) ?_
          exact ev_le [0, 1, 2, 3] rfl rfl H
      · replace H := H.2 c6
        refine ev_iconst (pc1 := 25) (x := (-1)) (by decide) (TBof tbs_41 _ rfl) rfl ?_
        exact ev_ireturn (TBof tbs_41 _ rfl) (retI_i rt_41) ⟨_, rfl, H⟩
set_option maxRecDepth 100000 in
theorem R_X3_lay_45 {d : Nat} {v1 v2 v3 s0 : Int32} {M : Im} {h : Hm} {D : Dm} {Q : Int32 → Im → Hm → Dm → Prop} (H : ((v3 < 0) → (Q (-2) M h D)) ∧ (¬ (v3 < 0) → (((v3 ≤ s0) → ((((M 1 1) = 0) → (vp_in v1 12 ∧ (((¬ ((M 8 (v1.toNatClampNeg)) = v2)) → (EvI d nX3_lay 102 [(0, .ref 0), (1, .int v1), (2, .int v2), (3, .int v3), (4, .int s0)] [] M h D Q)) ∧ (¬ (¬ ((M 8 (v1.toNatClampNeg)) = v2)) → (vp_in v1 12 ∧ (((¬ ((M 9 (v1.toNatClampNeg)) = v3)) → (EvI d nX3_lay 102 [(0, .ref 0), (1, .int v1), (2, .int v2), (3, .int v3), (4, .int s0)] [] M h D Q)) ∧ (¬ (¬ ((M 9 (v1.toNatClampNeg)) = v3)) → (Q (-5) M h D)))))))) ∧ (¬ ((M 1 1) = 0) → (Q (-4) M h D)))) ∧ (¬ (v3 ≤ s0) → (Q (-2) M h D))))) : EvI d nX3_lay 45 [(0, .ref 0), (1, .int v1), (2, .int v2), (3, .int v3)] [.int s0] M h D Q := by
  refine ev_istore (pc1 := 47) (L1 := [(4, .int s0), (0, .ref 0), (1, .int v1), (2, .int v2), (3, .int v3)]) (by rw [ml_41]; decide) rfl (TBof tbs_41 _ rfl) rfl ?_
  refine ev_iload_n (pc1 := 48) rfl (TBof tbs_41 _ rfl) rfl ?_
  refine ev_if (pc1 := 51) (t := 57) (TBof tbs_41 _ rfl) (by decide) rfl (fun c1 => ?_) (fun c1 => ?_)
  · replace H := H.1 c1
    refine ev_bipush (pc1 := 59) (x := (-2)) (by decide) (TBof tbs_41 _ rfl) rfl ?_
    exact ev_ireturn (TBof tbs_41 _ rfl) (retI_i rt_41) ⟨_, rfl, H⟩
  · replace H := H.2 c1
    refine ev_iload_n (pc1 := 52) rfl (TBof tbs_41 _ rfl) rfl ?_
    refine ev_iload (pc1 := 54) rfl (TBof tbs_41 _ rfl) rfl ?_
    refine ev_icmp (pc1 := 57) (t := 60) (TBof tbs_41 _ rfl) (by decide) rfl (fun c2 => ?_) (fun c2 => ?_)
    · replace H := H.1 c2
      refine ev_aload_n (pc1 := 61) rfl rfl (TBof tbs_41 _ rfl) rfl ?_
      refine ev_getP (pc1 := 64) (ci := 3) (k := 0) (a := 1) (TBof tbs_41 _ rfl) rfl (fldof mo_41 fl_3_12) ltc_0 sh_0 nk_3_0 fp_3_0 (by decide) pf_0_0 ?_
      refine ev_getI (pc1 := 67) (ci := 2) (k := 1) (TBof tbs_41 _ rfl) rfl (fldof mo_41 fl_3_59) ltc_1 sh_1 nk_2_1 fi_2_1 ?_
      refine ev_if (pc1 := 70) (t := 73) (TBof tbs_41 _ rfl) (by decide) rfl (fun c3 => ?_) (fun c3 => ?_)
      · replace H := H.1 c3
        refine ev_aload_n (pc1 := 74) rfl rfl (TBof tbs_41 _ rfl) rfl ?_
        refine ev_getP (pc1 := 77) (ci := 3) (k := 0) (a := 1) (TBof tbs_41 _ rfl) rfl (fldof mo_41 fl_3_12) ltc_0 sh_0 nk_3_0 fp_3_0 (by decide) pf_0_0 ?_
        refine ev_getP (pc1 := 80) (ci := 2) (k := 13) (a := 8) (TBof tbs_41 _ rfl) rfl (fldof mo_41 fl_3_100) ltc_1 sh_1 nk_2_13 fp_2_13 (by decide) pf_1_13 ?_
        refine ev_iload_n (pc1 := 81) rfl (TBof tbs_41 _ rfl) rfl ?_
        refine ev_iaload (pc1 := 82) (n := 12) (TBof tbs_41 _ rfl) rfl ltc_8 sh_8 H.1 ?_
        replace H := H.2
        refine ev_iload_n (pc1 := 83) rfl (TBof tbs_41 _ rfl) rfl ?_
        refine ev_icmp (pc1 := 86) (t := 102) (TBof tbs_41 _ rfl) (by decide) rfl (fun c4 => ?_) (fun c4 => ?_)
        · replace H := H.1 c4
          exact ev_le [1, 2, 3, 4, 0] rfl rfl H
        · replace H := H.2 c4
          refine ev_aload_n (pc1 := 87) rfl rfl (TBof tbs_41 _ rfl) rfl ?_
          refine ev_getP (pc1 := 90) (ci := 3) (k := 0) (a := 1) (TBof tbs_41 _ rfl) rfl (fldof mo_41 fl_3_12) ltc_0 sh_0 nk_3_0 fp_3_0 (by decide) pf_0_0 ?_
          refine ev_getP (pc1 := 93) (ci := 2) (k := 14) (a := 9) (TBof tbs_41 _ rfl) rfl (fldof mo_41 fl_3_103) ltc_1 sh_1 nk_2_14 fp_2_14 (by decide) pf_1_14 ?_
          refine ev_iload_n (pc1 := 94) rfl (TBof tbs_41 _ rfl) rfl ?_
          refine ev_iaload (pc1 := 95) (n := 12) (TBof tbs_41 _ rfl) rfl ltc_9 sh_9 H.1 ?_
          replace H := H.2
          refine ev_iload_n (pc1 := 96) rfl (TBof tbs_41 _ rfl) rfl ?_
          refine ev_icmp (pc1 := 99) (t := 102) (TBof tbs_41 _ rfl) (by decide) rfl (fun c5 => ?_) (fun c5 => ?_)
          · replace H := H.1 c5
            exact ev_le [1, 2, 3, 4, 0] rfl rfl H
          · replace H := H.2 c5
            refine ev_bipush (pc1 := 101) (x := (-5)) (by decide) (TBof tbs_41 _ rfl) rfl ?_
            exact ev_ireturn (TBof tbs_41 _ rfl) (retI_i rt_41) ⟨_, rfl, H⟩
      · replace H := H.2 c3
        refine ev_bipush (pc1 := 72) (x := (-4)) (by decide) (TBof tbs_41 _ rfl) rfl ?_
        exact ev_ireturn (TBof tbs_41 _ rfl) (retI_i rt_41) ⟨_, rfl, H⟩
    · replace H := H.2 c2
      refine ev_bipush (pc1 := 59) (x := (-2)) (by decide) (TBof tbs_41 _ rfl) rfl ?_
      exact ev_ireturn (TBof tbs_41 _ rfl) (retI_i rt_41) ⟨_, rfl, H⟩
set_option maxRecDepth 100000 in
theorem R_X3_lay_102 {d : Nat} {v1 v2 v3 v4 : Int32} {M : Im} {h : Hm} {D : Dm} {Q : Int32 → Im → Hm → Dm → Prop} (H : CV d nX3_recordState [.ref 0] M h D (fun M1 h1 D1 => vp_in v1 12 ∧ (vp_in v1 12 ∧ (CI d nX2_countThingsInDrawers [.ref 1] (up2 (up2 M1 8 (v1.toNatClampNeg) v2) 9 (v1.toNatClampNeg) v3) h1 D1 (fun x2 M2 h2 D2 => Q x2 M2 h2 D2))))) : EvI d nX3_lay 102 [(0, .ref 0), (1, .int v1), (2, .int v2), (3, .int v3), (4, .int v4)] [] M h D Q := by
  refine ev_aload_n (pc1 := 103) rfl rfl (TBof tbs_41 _ rfl) rfl ?_
  refine ev_callvV (pc1 := 106) (as := []) (r := []) (TBof tbs_41 _ rfl) rfl (lnkof mo_41 ln_3_62) rfl na_63 ltc_0 (sh_0.trans (by rw [mo_63])) (Nat.le_of_ble_eq_true rfl) H (fun M1 h1 D1 H => ?_)
  refine ev_aload_n (pc1 := 107) rfl rfl (TBof tbs_41 _ rfl) rfl ?_
  refine ev_getP (pc1 := 110) (ci := 3) (k := 0) (a := 1) (TBof tbs_41 _ rfl) rfl (fldof mo_41 fl_3_12) ltc_0 sh_0 nk_3_0 fp_3_0 (by decide) pf_0_0 ?_
  refine ev_getP (pc1 := 113) (ci := 2) (k := 13) (a := 8) (TBof tbs_41 _ rfl) rfl (fldof mo_41 fl_3_100) ltc_1 sh_1 nk_2_13 fp_2_13 (by decide) pf_1_13 ?_
  refine ev_iload_n (pc1 := 114) rfl (TBof tbs_41 _ rfl) rfl ?_
  refine ev_iload_n (pc1 := 115) rfl (TBof tbs_41 _ rfl) rfl ?_
  refine ev_iastore (pc1 := 116) (n := 12) (TBof tbs_41 _ rfl) rfl ltc_8 sh_8 H.1 ?_
  replace H := H.2
  refine ev_aload_n (pc1 := 117) rfl rfl (TBof tbs_41 _ rfl) rfl ?_
  refine ev_getP (pc1 := 120) (ci := 3) (k := 0) (a := 1) (TBof tbs_41 _ rfl) rfl (fldof mo_41 fl_3_12) ltc_0 sh_0 nk_3_0 fp_3_0 (by decide) pf_0_0 ?_
  refine ev_getP (pc1 := 123) (ci := 2) (k := 14) (a := 9) (TBof tbs_41 _ rfl) rfl (fldof mo_41 fl_3_103) ltc_1 sh_1 nk_2_14 fp_2_14 (by decide) pf_1_14 ?_
  refine ev_iload_n (pc1 := 124) rfl (TBof tbs_41 _ rfl) rfl ?_
  refine ev_iload_n (pc1 := 125) rfl (TBof tbs_41 _ rfl) rfl ?_
  refine ev_iastore (pc1 := 126) (n := 12) (TBof tbs_41 _ rfl) rfl ltc_9 sh_9 H.1 ?_
  replace H := H.2
  refine ev_aload_n (pc1 := 127) rfl rfl (TBof tbs_41 _ rfl) rfl ?_
  refine ev_getP (pc1 := 130) (ci := 3) (k := 0) (a := 1) (TBof tbs_41 _ rfl) rfl (fldof mo_41 fl_3_12) ltc_0 sh_0 nk_3_0 fp_3_0 (by decide) pf_0_0 ?_
  refine ev_callvI (pc1 := 133) (as := []) (r := []) (TBof tbs_41 _ rfl) rfl (lnkof mo_41 ln_3_106) rfl na_35 ltc_1 (sh_1.trans (by rw [mo_35])) (Nat.le_of_ble_eq_true rfl) H (fun x2 M2 h2 D2 H => ?_)
  exact ev_ireturn (TBof tbs_41 _ rfl) (retI_i rt_41) ⟨_, rfl, H⟩
set_option maxRecDepth 100000 in
theorem R_X3_begin_0 {d : Nat} {M : Im} {h : Hm} {D : Dm} {Q : Int32 → Im → Hm → Dm → Prop} (H : ((¬ ((M 1 1) = 0)) → (Q (-4) M h D)) ∧ (¬ (¬ ((M 1 1) = 0)) → ((((M 1 0) = 0) → (Q (-4) M h D)) ∧ (¬ ((M 1 0) = 0) → (CI d nX2_hasAllHolders [.ref 1] M h D (fun x3 M3 h3 D3 => ((¬ (x3 = 0)) → (CV d nX3_recordState [.ref 0] M3 h3 D3 (fun M5 h5 D5 => CV d nX2_putBack [.ref 1] M5 h5 D5 (fun M6 h6 D6 => Q ((up2 M6 1 1 1) 1 0) (up2 M6 1 1 1) h6 D6)))) ∧ (¬ (¬ (x3 = 0)) → (Q (-4) M3 h3 D3)))))))) : EvI d nX3_begin 0 [(0, .ref 0)] [] M h D Q := by
  refine ev_aload_n (pc1 := 1) rfl rfl (TBof tbs_42 _ rfl) rfl ?_
  refine ev_getP (pc1 := 4) (ci := 3) (k := 0) (a := 1) (TBof tbs_42 _ rfl) rfl (fldof mo_42 fl_3_12) ltc_0 sh_0 nk_3_0 fp_3_0 (by decide) pf_0_0 ?_
  refine ev_getI (pc1 := 7) (ci := 2) (k := 1) (TBof tbs_42 _ rfl) rfl (fldof mo_42 fl_3_59) ltc_1 sh_1 nk_2_1 fi_2_1 ?_
  refine ev_if (pc1 := 10) (t := 30) (TBof tbs_42 _ rfl) (by decide) rfl (fun c1 => ?_) (fun c1 => ?_)
  · replace H := H.1 c1
    refine ev_bipush (pc1 := 32) (x := (-4)) (by decide) (TBof tbs_42 _ rfl) rfl ?_
    exact ev_ireturn (TBof tbs_42 _ rfl) (retI_i rt_42) ⟨_, rfl, H⟩
  · replace H := H.2 c1
    refine ev_aload_n (pc1 := 11) rfl rfl (TBof tbs_42 _ rfl) rfl ?_
    refine ev_getP (pc1 := 14) (ci := 3) (k := 0) (a := 1) (TBof tbs_42 _ rfl) rfl (fldof mo_42 fl_3_12) ltc_0 sh_0 nk_3_0 fp_3_0 (by decide) pf_0_0 ?_
    refine ev_getI (pc1 := 17) (ci := 2) (k := 0) (TBof tbs_42 _ rfl) rfl (fldof mo_42 fl_3_56) ltc_1 sh_1 nk_2_0 fi_2_0 ?_
    refine ev_if (pc1 := 20) (t := 30) (TBof tbs_42 _ rfl) (by decide) rfl (fun c2 => ?_) (fun c2 => ?_)
    · replace H := H.1 c2
      refine ev_bipush (pc1 := 32) (x := (-4)) (by decide) (TBof tbs_42 _ rfl) rfl ?_
      exact ev_ireturn (TBof tbs_42 _ rfl) (retI_i rt_42) ⟨_, rfl, H⟩
    · replace H := H.2 c2
      refine ev_aload_n (pc1 := 21) rfl rfl (TBof tbs_42 _ rfl) rfl ?_
      refine ev_getP (pc1 := 24) (ci := 3) (k := 0) (a := 1) (TBof tbs_42 _ rfl) rfl (fldof mo_42 fl_3_12) ltc_0 sh_0 nk_3_0 fp_3_0 (by decide) pf_0_0 ?_
      refine ev_callvI (pc1 := 27) (as := []) (r := []) (TBof tbs_42 _ rfl) rfl (lnkof mo_42 ln_3_109) rfl na_32 ltc_1 (sh_1.trans (by rw [mo_32])) (Nat.le_of_ble_eq_true rfl) H (fun x3 M3 h3 D3 H => ?_)
      refine ev_if (pc1 := 30) (t := 33) (TBof tbs_42 _ rfl) (by decide) rfl (fun c4 => ?_) (fun c4 => ?_)
      · replace H := H.1 c4
        refine ev_aload_n (pc1 := 34) rfl rfl (TBof tbs_42 _ rfl) rfl ?_
        refine ev_callvV (pc1 := 37) (as := []) (r := []) (TBof tbs_42 _ rfl) rfl (lnkof mo_42 ln_3_62) rfl na_63 ltc_0 (sh_0.trans (by rw [mo_63])) (Nat.le_of_ble_eq_true rfl) H (fun M5 h5 D5 H => ?_)
        refine ev_aload_n (pc1 := 38) rfl rfl (TBof tbs_42 _ rfl) rfl ?_
        refine ev_getP (pc1 := 41) (ci := 3) (k := 0) (a := 1) (TBof tbs_42 _ rfl) rfl (fldof mo_42 fl_3_12) ltc_0 sh_0 nk_3_0 fp_3_0 (by decide) pf_0_0 ?_
        refine ev_callvV (pc1 := 44) (as := []) (r := []) (TBof tbs_42 _ rfl) rfl (lnkof mo_42 ln_3_113) rfl na_17 ltc_1 (sh_1.trans (by rw [mo_17])) (Nat.le_of_ble_eq_true rfl) H (fun M6 h6 D6 H => ?_)
        refine ev_aload_n (pc1 := 45) rfl rfl (TBof tbs_42 _ rfl) rfl ?_
        refine ev_getP (pc1 := 48) (ci := 3) (k := 0) (a := 1) (TBof tbs_42 _ rfl) rfl (fldof mo_42 fl_3_12) ltc_0 sh_0 nk_3_0 fp_3_0 (by decide) pf_0_0 ?_
        refine ev_iconst (pc1 := 49) (x := 1) (by decide) (TBof tbs_42 _ rfl) rfl ?_
        refine ev_putZ (pc1 := 52) (ci := 2) (k := 1) (TBof tbs_42 _ rfl) rfl (fldof mo_42 fl_3_59) ltc_1 sh_1 nk_2_1 rfl rfl (Or.inr rfl) ?_
        refine ev_aload_n (pc1 := 53) rfl rfl (TBof tbs_42 _ rfl) rfl ?_
        refine ev_getP (pc1 := 56) (ci := 3) (k := 0) (a := 1) (TBof tbs_42 _ rfl) rfl (fldof mo_42 fl_3_12) ltc_0 sh_0 nk_3_0 fp_3_0 (by decide) pf_0_0 ?_
        refine ev_getI (pc1 := 59) (ci := 2) (k := 0) (TBof tbs_42 _ rfl) rfl (fldof mo_42 fl_3_56) ltc_1 sh_1 nk_2_0 fi_2_0 ?_
        exact ev_ireturn (TBof tbs_42 _ rfl) (retI_i rt_42) ⟨_, rfl, H⟩
      · replace H := H.2 c4
        refine ev_bipush (pc1 := 32) (x := (-4)) (by decide) (TBof tbs_42 _ rfl) rfl ?_
        exact ev_ireturn (TBof tbs_42 _ rfl) (retI_i rt_42) ⟨_, rfl, H⟩
set_option maxRecDepth 100000 in
theorem R_X3_giveUp_0 {d : Nat} {M : Im} {h : Hm} {D : Dm} {Q : Int32 → Im → Hm → Dm → Prop} (H : ((¬ ((M 1 1) = 0)) → (CV d nX3_recordState [.ref 0] M h D (fun M2 h2 D2 => CV d nX2_putBack [.ref 1] M2 h2 D2 (fun M3 h3 D3 => Q (M 1 2) M3 h3 D3)))) ∧ (¬ (¬ ((M 1 1) = 0)) → (Q (-4) M h D))) : EvI d nX3_giveUp 0 [(0, .ref 0)] [] M h D Q := by
  refine ev_aload_n (pc1 := 1) rfl rfl (TBof tbs_43 _ rfl) rfl ?_
  refine ev_getP (pc1 := 4) (ci := 3) (k := 0) (a := 1) (TBof tbs_43 _ rfl) rfl (fldof mo_43 fl_3_12) ltc_0 sh_0 nk_3_0 fp_3_0 (by decide) pf_0_0 ?_
  refine ev_getI (pc1 := 7) (ci := 2) (k := 1) (TBof tbs_43 _ rfl) rfl (fldof mo_43 fl_3_59) ltc_1 sh_1 nk_2_1 fi_2_1 ?_
  refine ev_if (pc1 := 10) (t := 13) (TBof tbs_43 _ rfl) (by decide) rfl (fun c1 => ?_) (fun c1 => ?_)
  · replace H := H.1 c1
    refine ev_aload_n (pc1 := 14) rfl rfl (TBof tbs_43 _ rfl) rfl ?_
    refine ev_getP (pc1 := 17) (ci := 3) (k := 0) (a := 1) (TBof tbs_43 _ rfl) rfl (fldof mo_43 fl_3_12) ltc_0 sh_0 nk_3_0 fp_3_0 (by decide) pf_0_0 ?_
    refine ev_getI (pc1 := 20) (ci := 2) (k := 2) (TBof tbs_43 _ rfl) rfl (fldof mo_43 fl_3_116) ltc_1 sh_1 nk_2_2 fi_2_2 ?_
    refine ev_istore_n (pc1 := 21) (L1 := [(1, .int (M 1 2)), (0, .ref 0)]) (by rw [ml_43]; decide) rfl (TBof tbs_43 _ rfl) rfl ?_
    refine ev_aload_n (pc1 := 22) rfl rfl (TBof tbs_43 _ rfl) rfl ?_
    refine ev_callvV (pc1 := 25) (as := []) (r := []) (TBof tbs_43 _ rfl) rfl (lnkof mo_43 ln_3_62) rfl na_63 ltc_0 (sh_0.trans (by rw [mo_63])) (Nat.le_of_ble_eq_true rfl) H (fun M2 h2 D2 H => ?_)
    refine ev_aload_n (pc1 := 26) rfl rfl (TBof tbs_43 _ rfl) rfl ?_
    refine ev_getP (pc1 := 29) (ci := 3) (k := 0) (a := 1) (TBof tbs_43 _ rfl) rfl (fldof mo_43 fl_3_12) ltc_0 sh_0 nk_3_0 fp_3_0 (by decide) pf_0_0 ?_
    refine ev_callvV (pc1 := 32) (as := []) (r := []) (TBof tbs_43 _ rfl) rfl (lnkof mo_43 ln_3_113) rfl na_17 ltc_1 (sh_1.trans (by rw [mo_17])) (Nat.le_of_ble_eq_true rfl) H (fun M3 h3 D3 H => ?_)
    refine ev_iload_n (pc1 := 33) rfl (TBof tbs_43 _ rfl) rfl ?_
    exact ev_ireturn (TBof tbs_43 _ rfl) (retI_i rt_43) ⟨_, rfl, H⟩
  · replace H := H.2 c1
    refine ev_bipush (pc1 := 12) (x := (-4)) (by decide) (TBof tbs_43 _ rfl) rfl ?_
    exact ev_ireturn (TBof tbs_43 _ rfl) (retI_i rt_43) ⟨_, rfl, H⟩
set_option maxRecDepth 100000 in
theorem R_X3_open_0 {d : Nat} {v1 : Int32} {M : Im} {h : Hm} {D : Dm} {Q : Int32 → Im → Hm → Dm → Prop} (H : CI d nX2_isThere [.ref 1, .int v1] M h D (fun x1 M1 h1 D1 => ((¬ (x1 = 0)) → (((¬ ((M1 1 1) = 0)) → (CI d nX2_isOpen [.ref 1, .int v1] M1 h1 D1 (fun x4 M4 h4 D4 => ((x4 = 0) → (CI d nX2_canOpen [.ref 1, .int v1] M4 h4 D4 (fun x6 M6 h6 D6 => ((¬ (x6 = 0)) → (CV d nX3_recordState [.ref 0] M6 h6 D6 (fun M8 h8 D8 => CV d nX2_setOpen [.ref 1, .int v1] M8 h8 D8 (fun M9 h9 D9 => vp_in v1 16 ∧ (CV d nX2_addStep [.ref 1, .int (4 + (M9 5 (v1.toNatClampNeg)))] M9 h9 D9 (fun M10 h10 D10 => CI d nJ6_bitCount_0f7a4 [.int (M10 1 4)] M10 h10 D10 (fun x11 M11 h11 D11 => Q x11 M11 h11 D11))))))) ∧ (¬ (¬ (x6 = 0)) → (Q (-4) M6 h6 D6))))) ∧ (¬ (x4 = 0) → (Q (-5) M4 h4 D4))))) ∧ (¬ (¬ ((M1 1 1) = 0)) → (Q (-4) M1 h1 D1)))) ∧ (¬ (¬ (x1 = 0)) → (Q (-1) M1 h1 D1)))) : EvI d nX3_open 0 [(0, .ref 0), (1, .int v1)] [] M h D Q := by
  refine ev_aload_n (pc1 := 1) rfl rfl (TBof tbs_44 _ rfl) rfl ?_
  refine ev_getP (pc1 := 4) (ci := 3) (k := 0) (a := 1) (TBof tbs_44 _ rfl) rfl (fldof mo_44 fl_3_12) ltc_0 sh_0 nk_3_0 fp_3_0 (by decide) pf_0_0 ?_
  refine ev_iload_n (pc1 := 5) rfl (TBof tbs_44 _ rfl) rfl ?_
  refine ev_callvI (pc1 := 8) (as := [.int v1]) (r := []) (TBof tbs_44 _ rfl) rfl (lnkof mo_44 ln_3_48) rfl na_18 ltc_1 (sh_1.trans (by rw [mo_18])) (Nat.le_of_ble_eq_true rfl) H (fun x1 M1 h1 D1 H => ?_)
  refine ev_if (pc1 := 11) (t := 13) (TBof tbs_44 _ rfl) (by decide) rfl (fun c2 => ?_) (fun c2 => ?_)
  · replace H := H.1 c2
    refine ev_aload_n (pc1 := 14) rfl rfl (TBof tbs_44 _ rfl) rfl ?_
    refine ev_getP (pc1 := 17) (ci := 3) (k := 0) (a := 1) (TBof tbs_44 _ rfl) rfl (fldof mo_44 fl_3_12) ltc_0 sh_0 nk_3_0 fp_3_0 (by decide) pf_0_0 ?_
    refine ev_getI (pc1 := 20) (ci := 2) (k := 1) (TBof tbs_44 _ rfl) rfl (fldof mo_44 fl_3_59) ltc_1 sh_1 nk_2_1 fi_2_1 ?_
    refine ev_if (pc1 := 23) (t := 26) (TBof tbs_44 _ rfl) (by decide) rfl (fun c3 => ?_) (fun c3 => ?_)
    · replace H := H.1 c3
      refine ev_aload_n (pc1 := 27) rfl rfl (TBof tbs_44 _ rfl) rfl ?_
      refine ev_getP (pc1 := 30) (ci := 3) (k := 0) (a := 1) (TBof tbs_44 _ rfl) rfl (fldof mo_44 fl_3_12) ltc_0 sh_0 nk_3_0 fp_3_0 (by decide) pf_0_0 ?_
      refine ev_iload_n (pc1 := 31) rfl (TBof tbs_44 _ rfl) rfl ?_
      refine ev_callvI (pc1 := 34) (as := [.int v1]) (r := []) (TBof tbs_44 _ rfl) rfl (lnkof mo_44 ln_3_119) rfl na_19 ltc_1 (sh_1.trans (by rw [mo_19])) (Nat.le_of_ble_eq_true rfl) H (fun x4 M4 h4 D4 H => ?_)
      refine ev_if (pc1 := 37) (t := 40) (TBof tbs_44 _ rfl) (by decide) rfl (fun c5 => ?_) (fun c5 => ?_)
      · replace H := H.1 c5
        refine ev_aload_n (pc1 := 41) rfl rfl (TBof tbs_44 _ rfl) rfl ?_
        refine ev_getP (pc1 := 44) (ci := 3) (k := 0) (a := 1) (TBof tbs_44 _ rfl) rfl (fldof mo_44 fl_3_12) ltc_0 sh_0 nk_3_0 fp_3_0 (by decide) pf_0_0 ?_
        refine ev_iload_n (pc1 := 45) rfl (TBof tbs_44 _ rfl) rfl ?_
        refine ev_callvI (pc1 := 48) (as := [.int v1]) (r := []) (TBof tbs_44 _ rfl) rfl (lnkof mo_44 ln_3_122) rfl na_22 ltc_1 (sh_1.trans (by rw [mo_22])) (Nat.le_of_ble_eq_true rfl) H (fun x6 M6 h6 D6 H => ?_)
        refine ev_if (pc1 := 51) (t := 54) (TBof tbs_44 _ rfl) (by decide) rfl (fun c7 => ?_) (fun c7 => ?_)
        · replace H := H.1 c7
          refine ev_aload_n (pc1 := 55) rfl rfl (TBof tbs_44 _ rfl) rfl ?_
          refine ev_callvV (pc1 := 58) (as := []) (r := []) (TBof tbs_44 _ rfl) rfl (lnkof mo_44 ln_3_62) rfl na_63 ltc_0 (sh_0.trans (by rw [mo_63])) (Nat.le_of_ble_eq_true rfl) H (fun M8 h8 D8 H => ?_)
          refine ev_aload_n (pc1 := 59) rfl rfl (TBof tbs_44 _ rfl) rfl ?_
          refine ev_getP (pc1 := 62) (ci := 3) (k := 0) (a := 1) (TBof tbs_44 _ rfl) rfl (fldof mo_44 fl_3_12) ltc_0 sh_0 nk_3_0 fp_3_0 (by decide) pf_0_0 ?_
          refine ev_iload_n (pc1 := 63) rfl (TBof tbs_44 _ rfl) rfl ?_
          refine ev_callvV (pc1 := 66) (as := [.int v1]) (r := []) (TBof tbs_44 _ rfl) rfl (lnkof mo_44 ln_3_125) rfl na_28 ltc_1 (sh_1.trans (by rw [mo_28])) (Nat.le_of_ble_eq_true rfl) H (fun M9 h9 D9 H => ?_)
          refine ev_aload_n (pc1 := 67) rfl rfl (TBof tbs_44 _ rfl) rfl ?_
          refine ev_getP (pc1 := 70) (ci := 3) (k := 0) (a := 1) (TBof tbs_44 _ rfl) rfl (fldof mo_44 fl_3_12) ltc_0 sh_0 nk_3_0 fp_3_0 (by decide) pf_0_0 ?_
          refine ev_iconst (pc1 := 71) (x := 4) (by decide) (TBof tbs_44 _ rfl) rfl ?_
          refine ev_aload_n (pc1 := 72) rfl rfl (TBof tbs_44 _ rfl) rfl ?_
          refine ev_getP (pc1 := 75) (ci := 3) (k := 0) (a := 1) (TBof tbs_44 _ rfl) rfl (fldof mo_44 fl_3_12) ltc_0 sh_0 nk_3_0 fp_3_0 (by decide) pf_0_0 ?_
          refine ev_getP (pc1 := 78) (ci := 2) (k := 10) (a := 5) (TBof tbs_44 _ rfl) rfl (fldof mo_44 fl_3_129) ltc_1 sh_1 nk_2_10 fp_2_10 (by decide) pf_1_10 ?_
          refine ev_iload_n (pc1 := 79) rfl (TBof tbs_44 _ rfl) rfl ?_
          refine ev_iaload (pc1 := 80) (n := 16) (TBof tbs_44 _ rfl) rfl ltc_5 sh_5 H.1 ?_
          replace H := H.2
          refine ev_iadd (pc1 := 81) (TBof tbs_44 _ rfl) rfl ?_
          refine ev_callvV (pc1 := 84) (as := [.int (4 + (M9 5 (v1.toNatClampNeg)))]) (r := []) (TBof tbs_44 _ rfl) rfl (lnkof mo_44 ln_3_132) rfl na_29 ltc_1 (sh_1.trans (by rw [mo_29])) (Nat.le_of_ble_eq_true rfl) H (fun M10 h10 D10 H => ?_)
          refine ev_aload_n (pc1 := 85) rfl rfl (TBof tbs_44 _ rfl) rfl ?_
          refine ev_getP (pc1 := 88) (ci := 3) (k := 0) (a := 1) (TBof tbs_44 _ rfl) rfl (fldof mo_44 fl_3_12) ltc_0 sh_0 nk_3_0 fp_3_0 (by decide) pf_0_0 ?_
          refine ev_getI (pc1 := 91) (ci := 2) (k := 4) (TBof tbs_44 _ rfl) rfl (fldof mo_44 fl_3_135) ltc_1 sh_1 nk_2_4 fi_2_4 ?_
          refine ev_callsI (pc1 := 94) (as := [.int (M10 1 4)]) (r := []) (TBof tbs_44 _ rfl) rfl (lnkof mo_44 ln_3_138) (Or.inl rfl) rfl na_68 (Nat.le_of_ble_eq_true rfl) H (fun x11 M11 h11 D11 H => ?_)
          exact ev_ireturn (TBof tbs_44 _ rfl) (retI_i rt_44) ⟨_, rfl, H⟩
        · replace H := H.2 c7
          refine ev_bipush (pc1 := 53) (x := (-4)) (by decide) (TBof tbs_44 _ rfl) rfl ?_
          exact ev_ireturn (TBof tbs_44 _ rfl) (retI_i rt_44) ⟨_, rfl, H⟩
      · replace H := H.2 c5
        refine ev_bipush (pc1 := 39) (x := (-5)) (by decide) (TBof tbs_44 _ rfl) rfl ?_
        exact ev_ireturn (TBof tbs_44 _ rfl) (retI_i rt_44) ⟨_, rfl, H⟩
    · replace H := H.2 c3
      refine ev_bipush (pc1 := 25) (x := (-4)) (by decide) (TBof tbs_44 _ rfl) rfl ?_
      exact ev_ireturn (TBof tbs_44 _ rfl) (retI_i rt_44) ⟨_, rfl, H⟩
  · replace H := H.2 c2
    refine ev_iconst (pc1 := 12) (x := (-1)) (by decide) (TBof tbs_44 _ rfl) rfl ?_
    exact ev_ireturn (TBof tbs_44 _ rfl) (retI_i rt_44) ⟨_, rfl, H⟩
set_option maxRecDepth 100000 in
theorem R_X3_close_0 {d : Nat} {v1 : Int32} {M : Im} {h : Hm} {D : Dm} {Q : Int32 → Im → Hm → Dm → Prop} (H : CI d nX2_isThere [.ref 1, .int v1] M h D (fun x1 M1 h1 D1 => ((¬ (x1 = 0)) → (((¬ ((M1 1 1) = 0)) → (CI d nX2_isOpen [.ref 1, .int v1] M1 h1 D1 (fun x4 M4 h4 D4 => ((¬ (x4 = 0)) → (CI d nX2_isReached [.ref 1, .int v1] M4 h4 D4 (fun x6 M6 h6 D6 => ((¬ (x6 = 0)) → (CV d nX3_recordState [.ref 0] M6 h6 D6 (fun M8 h8 D8 => CI d nX3_bit [.int v1] M8 h8 D8 (fun x9 M9 h9 D9 => vp_in v1 16 ∧ (CV d nX2_addStep [.ref 1, .int (4 + ((up2 M9 1 4 ((M8 1 4) &&& (x9 ^^^ (-1)))) 5 (v1.toNatClampNeg)))] (up2 M9 1 4 ((M8 1 4) &&& (x9 ^^^ (-1)))) h9 D9 (fun M10 h10 D10 => CI d nJ6_bitCount_0f7a4 [.int (M10 1 4)] M10 h10 D10 (fun x11 M11 h11 D11 => Q x11 M11 h11 D11))))))) ∧ (¬ (¬ (x6 = 0)) → (Q (-4) M6 h6 D6))))) ∧ (¬ (¬ (x4 = 0)) → (Q (-5) M4 h4 D4))))) ∧ (¬ (¬ ((M1 1 1) = 0)) → (Q (-4) M1 h1 D1)))) ∧ (¬ (¬ (x1 = 0)) → (Q (-1) M1 h1 D1)))) : EvI d nX3_close 0 [(0, .ref 0), (1, .int v1)] [] M h D Q := by
  refine ev_aload_n (pc1 := 1) rfl rfl (TBof tbs_45 _ rfl) rfl ?_
  refine ev_getP (pc1 := 4) (ci := 3) (k := 0) (a := 1) (TBof tbs_45 _ rfl) rfl (fldof mo_45 fl_3_12) ltc_0 sh_0 nk_3_0 fp_3_0 (by decide) pf_0_0 ?_
  refine ev_iload_n (pc1 := 5) rfl (TBof tbs_45 _ rfl) rfl ?_
  refine ev_callvI (pc1 := 8) (as := [.int v1]) (r := []) (TBof tbs_45 _ rfl) rfl (lnkof mo_45 ln_3_48) rfl na_18 ltc_1 (sh_1.trans (by rw [mo_18])) (Nat.le_of_ble_eq_true rfl) H (fun x1 M1 h1 D1 H => ?_)
  refine ev_if (pc1 := 11) (t := 13) (TBof tbs_45 _ rfl) (by decide) rfl (fun c2 => ?_) (fun c2 => ?_)
  · replace H := H.1 c2
    refine ev_aload_n (pc1 := 14) rfl rfl (TBof tbs_45 _ rfl) rfl ?_
    refine ev_getP (pc1 := 17) (ci := 3) (k := 0) (a := 1) (TBof tbs_45 _ rfl) rfl (fldof mo_45 fl_3_12) ltc_0 sh_0 nk_3_0 fp_3_0 (by decide) pf_0_0 ?_
    refine ev_getI (pc1 := 20) (ci := 2) (k := 1) (TBof tbs_45 _ rfl) rfl (fldof mo_45 fl_3_59) ltc_1 sh_1 nk_2_1 fi_2_1 ?_
    refine ev_if (pc1 := 23) (t := 26) (TBof tbs_45 _ rfl) (by decide) rfl (fun c3 => ?_) (fun c3 => ?_)
    · replace H := H.1 c3
      refine ev_aload_n (pc1 := 27) rfl rfl (TBof tbs_45 _ rfl) rfl ?_
      refine ev_getP (pc1 := 30) (ci := 3) (k := 0) (a := 1) (TBof tbs_45 _ rfl) rfl (fldof mo_45 fl_3_12) ltc_0 sh_0 nk_3_0 fp_3_0 (by decide) pf_0_0 ?_
      refine ev_iload_n (pc1 := 31) rfl (TBof tbs_45 _ rfl) rfl ?_
      refine ev_callvI (pc1 := 34) (as := [.int v1]) (r := []) (TBof tbs_45 _ rfl) rfl (lnkof mo_45 ln_3_119) rfl na_19 ltc_1 (sh_1.trans (by rw [mo_19])) (Nat.le_of_ble_eq_true rfl) H (fun x4 M4 h4 D4 H => ?_)
      refine ev_if (pc1 := 37) (t := 40) (TBof tbs_45 _ rfl) (by decide) rfl (fun c5 => ?_) (fun c5 => ?_)
      · replace H := H.1 c5
        refine ev_aload_n (pc1 := 41) rfl rfl (TBof tbs_45 _ rfl) rfl ?_
        refine ev_getP (pc1 := 44) (ci := 3) (k := 0) (a := 1) (TBof tbs_45 _ rfl) rfl (fldof mo_45 fl_3_12) ltc_0 sh_0 nk_3_0 fp_3_0 (by decide) pf_0_0 ?_
        refine ev_iload_n (pc1 := 45) rfl (TBof tbs_45 _ rfl) rfl ?_
        refine ev_callvI (pc1 := 48) (as := [.int v1]) (r := []) (TBof tbs_45 _ rfl) rfl (lnkof mo_45 ln_3_144) rfl na_21 ltc_1 (sh_1.trans (by rw [mo_21])) (Nat.le_of_ble_eq_true rfl) H (fun x6 M6 h6 D6 H => ?_)
        refine ev_if (pc1 := 51) (t := 54) (TBof tbs_45 _ rfl) (by decide) rfl (fun c7 => ?_) (fun c7 => ?_)
        · replace H := H.1 c7
          refine ev_aload_n (pc1 := 55) rfl rfl (TBof tbs_45 _ rfl) rfl ?_
          refine ev_callvV (pc1 := 58) (as := []) (r := []) (TBof tbs_45 _ rfl) rfl (lnkof mo_45 ln_3_62) rfl na_63 ltc_0 (sh_0.trans (by rw [mo_63])) (Nat.le_of_ble_eq_true rfl) H (fun M8 h8 D8 H => ?_)
          refine ev_aload_n (pc1 := 59) rfl rfl (TBof tbs_45 _ rfl) rfl ?_
          refine ev_getP (pc1 := 62) (ci := 3) (k := 0) (a := 1) (TBof tbs_45 _ rfl) rfl (fldof mo_45 fl_3_12) ltc_0 sh_0 nk_3_0 fp_3_0 (by decide) pf_0_0 ?_
          refine ev_dup (pc1 := 63) rfl (TBof tbs_45 _ rfl) rfl ?_
          refine ev_getI (pc1 := 66) (ci := 2) (k := 4) (TBof tbs_45 _ rfl) rfl (fldof mo_45 fl_3_135) ltc_1 sh_1 nk_2_4 fi_2_4 ?_
          refine ev_iload_n (pc1 := 67) rfl (TBof tbs_45 _ rfl) rfl ?_
          refine ev_callsI (pc1 := 70) (as := [.int v1]) (r := [.int (M8 1 4), .ref 1]) (TBof tbs_45 _ rfl) rfl (lnkof mo_45 ln_3_147) (Or.inl rfl) rfl na_60 (Nat.le_of_ble_eq_true rfl) H (fun x9 M9 h9 D9 H => ?_)
          refine ev_iconst (pc1 := 71) (x := (-1)) (by decide) (TBof tbs_45 _ rfl) rfl ?_
          refine ev_ixor (pc1 := 72) (TBof tbs_45 _ rfl) rfl ?_
          refine ev_iand (pc1 := 73) (TBof tbs_45 _ rfl) rfl ?_
          refine ev_putI (pc1 := 76) (ci := 2) (k := 4) (TBof tbs_45 _ rfl) rfl (fldof mo_45 fl_3_135) ltc_1 sh_1 nk_2_4 rfl rfl ?_
          refine ev_aload_n (pc1 := 77) rfl rfl (TBof tbs_45 _ rfl) rfl ?_
          refine ev_getP (pc1 := 80) (ci := 3) (k := 0) (a := 1) (TBof tbs_45 _ rfl) rfl (fldof mo_45 fl_3_12) ltc_0 sh_0 nk_3_0 fp_3_0 (by decide) pf_0_0 ?_
          refine ev_iconst (pc1 := 81) (x := 4) (by decide) (TBof tbs_45 _ rfl) rfl ?_
          refine ev_aload_n (pc1 := 82) rfl rfl (TBof tbs_45 _ rfl) rfl ?_
          refine ev_getP (pc1 := 85) (ci := 3) (k := 0) (a := 1) (TBof tbs_45 _ rfl) rfl (fldof mo_45 fl_3_12) ltc_0 sh_0 nk_3_0 fp_3_0 (by decide) pf_0_0 ?_
          refine ev_getP (pc1 := 88) (ci := 2) (k := 10) (a := 5) (TBof tbs_45 _ rfl) rfl (fldof mo_45 fl_3_129) ltc_1 sh_1 nk_2_10 fp_2_10 (by decide) pf_1_10 ?_
          refine ev_iload_n (pc1 := 89) rfl (TBof tbs_45 _ rfl) rfl ?_
          refine ev_iaload (pc1 := 90) (n := 16) (TBof tbs_45 _ rfl) rfl ltc_5 sh_5 H.1 ?_
          replace H := H.2
          refine ev_iadd (pc1 := 91) (TBof tbs_45 _ rfl) rfl ?_
          refine ev_callvV (pc1 := 94) (as := [.int (4 + ((up2 M9 1 4 ((M8 1 4) &&& (x9 ^^^ (-1)))) 5 (v1.toNatClampNeg)))]) (r := []) (TBof tbs_45 _ rfl) rfl (lnkof mo_45 ln_3_132) rfl na_29 ltc_1 (sh_1.trans (by rw [mo_29])) (Nat.le_of_ble_eq_true rfl) H (fun M10 h10 D10 H => ?_)
          refine ev_aload_n (pc1 := 95) rfl rfl (TBof tbs_45 _ rfl) rfl ?_
          refine ev_getP (pc1 := 98) (ci := 3) (k := 0) (a := 1) (TBof tbs_45 _ rfl) rfl (fldof mo_45 fl_3_12) ltc_0 sh_0 nk_3_0 fp_3_0 (by decide) pf_0_0 ?_
          refine ev_getI (pc1 := 101) (ci := 2) (k := 4) (TBof tbs_45 _ rfl) rfl (fldof mo_45 fl_3_135) ltc_1 sh_1 nk_2_4 fi_2_4 ?_
          refine ev_callsI (pc1 := 104) (as := [.int (M10 1 4)]) (r := []) (TBof tbs_45 _ rfl) rfl (lnkof mo_45 ln_3_138) (Or.inl rfl) rfl na_68 (Nat.le_of_ble_eq_true rfl) H (fun x11 M11 h11 D11 H => ?_)
          exact ev_ireturn (TBof tbs_45 _ rfl) (retI_i rt_45) ⟨_, rfl, H⟩
        · replace H := H.2 c7
          refine ev_bipush (pc1 := 53) (x := (-4)) (by decide) (TBof tbs_45 _ rfl) rfl ?_
          exact ev_ireturn (TBof tbs_45 _ rfl) (retI_i rt_45) ⟨_, rfl, H⟩
      · replace H := H.2 c5
        refine ev_bipush (pc1 := 39) (x := (-5)) (by decide) (TBof tbs_45 _ rfl) rfl ?_
        exact ev_ireturn (TBof tbs_45 _ rfl) (retI_i rt_45) ⟨_, rfl, H⟩
    · replace H := H.2 c3
      refine ev_bipush (pc1 := 25) (x := (-4)) (by decide) (TBof tbs_45 _ rfl) rfl ?_
      exact ev_ireturn (TBof tbs_45 _ rfl) (retI_i rt_45) ⟨_, rfl, H⟩
  · replace H := H.2 c2
    refine ev_iconst (pc1 := 12) (x := (-1)) (by decide) (TBof tbs_45 _ rfl) rfl ?_
    exact ev_ireturn (TBof tbs_45 _ rfl) (retI_i rt_45) ⟨_, rfl, H⟩
set_option maxRecDepth 100000 in
theorem R_X3_lift_0 {d : Nat} {v1 : Int32} {M : Im} {h : Hm} {D : Dm} {Q : Int32 → Im → Hm → Dm → Prop} (H : CI d nX2_isThere [.ref 1, .int v1] M h D (fun x1 M1 h1 D1 => ((¬ (x1 = 0)) → (((¬ ((M1 1 1) = 0)) → (CI d nX2_hasBottomLeft [.ref 1, .int v1] M1 h1 D1 (fun x4 M4 h4 D4 => ((¬ (x4 = 0)) → (CI d nX2_canLift [.ref 1, .int v1] M4 h4 D4 (fun x6 M6 h6 D6 => ((¬ (x6 = 0)) → (CV d nX3_recordState [.ref 0] M6 h6 D6 (fun M8 h8 D8 => vp_in v1 16 ∧ (vp_in v1 16 ∧ (CV d nX2_addStep [.ref 1, .int 10] (up2 M8 7 (v1.toNatClampNeg) ((M8 7 (v1.toNatClampNeg)) + 1)) h8 D8 (fun M9 h9 D9 => vp_in v1 16 ∧ (Q (M9 7 (v1.toNatClampNeg)) M9 h9 D9))))))) ∧ (¬ (¬ (x6 = 0)) → (Q (-4) M6 h6 D6))))) ∧ (¬ (¬ (x4 = 0)) → (Q (-5) M4 h4 D4))))) ∧ (¬ (¬ ((M1 1 1) = 0)) → (Q (-4) M1 h1 D1)))) ∧ (¬ (¬ (x1 = 0)) → (Q (-1) M1 h1 D1)))) : EvI d nX3_lift 0 [(0, .ref 0), (1, .int v1)] [] M h D Q := by
  refine ev_aload_n (pc1 := 1) rfl rfl (TBof tbs_46 _ rfl) rfl ?_
  refine ev_getP (pc1 := 4) (ci := 3) (k := 0) (a := 1) (TBof tbs_46 _ rfl) rfl (fldof mo_46 fl_3_12) ltc_0 sh_0 nk_3_0 fp_3_0 (by decide) pf_0_0 ?_
  refine ev_iload_n (pc1 := 5) rfl (TBof tbs_46 _ rfl) rfl ?_
  refine ev_callvI (pc1 := 8) (as := [.int v1]) (r := []) (TBof tbs_46 _ rfl) rfl (lnkof mo_46 ln_3_48) rfl na_18 ltc_1 (sh_1.trans (by rw [mo_18])) (Nat.le_of_ble_eq_true rfl) H (fun x1 M1 h1 D1 H => ?_)
  refine ev_if (pc1 := 11) (t := 13) (TBof tbs_46 _ rfl) (by decide) rfl (fun c2 => ?_) (fun c2 => ?_)
  · replace H := H.1 c2
    refine ev_aload_n (pc1 := 14) rfl rfl (TBof tbs_46 _ rfl) rfl ?_
    refine ev_getP (pc1 := 17) (ci := 3) (k := 0) (a := 1) (TBof tbs_46 _ rfl) rfl (fldof mo_46 fl_3_12) ltc_0 sh_0 nk_3_0 fp_3_0 (by decide) pf_0_0 ?_
    refine ev_getI (pc1 := 20) (ci := 2) (k := 1) (TBof tbs_46 _ rfl) rfl (fldof mo_46 fl_3_59) ltc_1 sh_1 nk_2_1 fi_2_1 ?_
    refine ev_if (pc1 := 23) (t := 26) (TBof tbs_46 _ rfl) (by decide) rfl (fun c3 => ?_) (fun c3 => ?_)
    · replace H := H.1 c3
      refine ev_aload_n (pc1 := 27) rfl rfl (TBof tbs_46 _ rfl) rfl ?_
      refine ev_getP (pc1 := 30) (ci := 3) (k := 0) (a := 1) (TBof tbs_46 _ rfl) rfl (fldof mo_46 fl_3_12) ltc_0 sh_0 nk_3_0 fp_3_0 (by decide) pf_0_0 ?_
      refine ev_iload_n (pc1 := 31) rfl (TBof tbs_46 _ rfl) rfl ?_
      refine ev_callvI (pc1 := 34) (as := [.int v1]) (r := []) (TBof tbs_46 _ rfl) rfl (lnkof mo_46 ln_3_150) rfl na_24 ltc_1 (sh_1.trans (by rw [mo_24])) (Nat.le_of_ble_eq_true rfl) H (fun x4 M4 h4 D4 H => ?_)
      refine ev_if (pc1 := 37) (t := 40) (TBof tbs_46 _ rfl) (by decide) rfl (fun c5 => ?_) (fun c5 => ?_)
      · replace H := H.1 c5
        refine ev_aload_n (pc1 := 41) rfl rfl (TBof tbs_46 _ rfl) rfl ?_
        refine ev_getP (pc1 := 44) (ci := 3) (k := 0) (a := 1) (TBof tbs_46 _ rfl) rfl (fldof mo_46 fl_3_12) ltc_0 sh_0 nk_3_0 fp_3_0 (by decide) pf_0_0 ?_
        refine ev_iload_n (pc1 := 45) rfl (TBof tbs_46 _ rfl) rfl ?_
        refine ev_callvI (pc1 := 48) (as := [.int v1]) (r := []) (TBof tbs_46 _ rfl) rfl (lnkof mo_46 ln_3_153) rfl na_25 ltc_1 (sh_1.trans (by rw [mo_25])) (Nat.le_of_ble_eq_true rfl) H (fun x6 M6 h6 D6 H => ?_)
        refine ev_if (pc1 := 51) (t := 54) (TBof tbs_46 _ rfl) (by decide) rfl (fun c7 => ?_) (fun c7 => ?_)
        · replace H := H.1 c7
          refine ev_aload_n (pc1 := 55) rfl rfl (TBof tbs_46 _ rfl) rfl ?_
          refine ev_callvV (pc1 := 58) (as := []) (r := []) (TBof tbs_46 _ rfl) rfl (lnkof mo_46 ln_3_62) rfl na_63 ltc_0 (sh_0.trans (by rw [mo_63])) (Nat.le_of_ble_eq_true rfl) H (fun M8 h8 D8 H => ?_)
          refine ev_aload_n (pc1 := 59) rfl rfl (TBof tbs_46 _ rfl) rfl ?_
          refine ev_getP (pc1 := 62) (ci := 3) (k := 0) (a := 1) (TBof tbs_46 _ rfl) rfl (fldof mo_46 fl_3_12) ltc_0 sh_0 nk_3_0 fp_3_0 (by decide) pf_0_0 ?_
          refine ev_getP (pc1 := 65) (ci := 2) (k := 12) (a := 7) (TBof tbs_46 _ rfl) rfl (fldof mo_46 fl_3_156) ltc_1 sh_1 nk_2_12 fp_2_12 (by decide) pf_1_12 ?_
          refine ev_iload_n (pc1 := 66) rfl (TBof tbs_46 _ rfl) rfl ?_
          refine ev_dup2 (pc1 := 67) rfl rfl (TBof tbs_46 _ rfl) rfl ?_
          refine ev_iaload (pc1 := 68) (n := 16) (TBof tbs_46 _ rfl) rfl ltc_7 sh_7 H.1 ?_
          replace H := H.2
          refine ev_iconst (pc1 := 69) (x := 1) (by decide) (TBof tbs_46 _ rfl) rfl ?_
          refine ev_iadd (pc1 := 70) (TBof tbs_46 _ rfl) rfl ?_
          refine ev_iastore (pc1 := 71) (n := 16) (TBof tbs_46 _ rfl) rfl ltc_7 sh_7 H.1 ?_
          replace H := H.2
          refine ev_aload_n (pc1 := 72) rfl rfl (TBof tbs_46 _ rfl) rfl ?_
          refine ev_getP (pc1 := 75) (ci := 3) (k := 0) (a := 1) (TBof tbs_46 _ rfl) rfl (fldof mo_46 fl_3_12) ltc_0 sh_0 nk_3_0 fp_3_0 (by decide) pf_0_0 ?_
          refine ev_bipush (pc1 := 77) (x := 10) (by decide) (TBof tbs_46 _ rfl) rfl ?_
          refine ev_callvV (pc1 := 80) (as := [.int 10]) (r := []) (TBof tbs_46 _ rfl) rfl (lnkof mo_46 ln_3_132) rfl na_29 ltc_1 (sh_1.trans (by rw [mo_29])) (Nat.le_of_ble_eq_true rfl) H (fun M9 h9 D9 H => ?_)
          refine ev_aload_n (pc1 := 81) rfl rfl (TBof tbs_46 _ rfl) rfl ?_
          refine ev_getP (pc1 := 84) (ci := 3) (k := 0) (a := 1) (TBof tbs_46 _ rfl) rfl (fldof mo_46 fl_3_12) ltc_0 sh_0 nk_3_0 fp_3_0 (by decide) pf_0_0 ?_
          refine ev_getP (pc1 := 87) (ci := 2) (k := 12) (a := 7) (TBof tbs_46 _ rfl) rfl (fldof mo_46 fl_3_156) ltc_1 sh_1 nk_2_12 fp_2_12 (by decide) pf_1_12 ?_
          refine ev_iload_n (pc1 := 88) rfl (TBof tbs_46 _ rfl) rfl ?_
          refine ev_iaload (pc1 := 89) (n := 16) (TBof tbs_46 _ rfl) rfl ltc_7 sh_7 H.1 ?_
          replace H := H.2
          exact ev_ireturn (TBof tbs_46 _ rfl) (retI_i rt_46) ⟨_, rfl, H⟩
        · replace H := H.2 c7
          refine ev_bipush (pc1 := 53) (x := (-4)) (by decide) (TBof tbs_46 _ rfl) rfl ?_
          exact ev_ireturn (TBof tbs_46 _ rfl) (retI_i rt_46) ⟨_, rfl, H⟩
      · replace H := H.2 c5
        refine ev_bipush (pc1 := 39) (x := (-5)) (by decide) (TBof tbs_46 _ rfl) rfl ?_
        exact ev_ireturn (TBof tbs_46 _ rfl) (retI_i rt_46) ⟨_, rfl, H⟩
    · replace H := H.2 c3
      refine ev_bipush (pc1 := 25) (x := (-4)) (by decide) (TBof tbs_46 _ rfl) rfl ?_
      exact ev_ireturn (TBof tbs_46 _ rfl) (retI_i rt_46) ⟨_, rfl, H⟩
  · replace H := H.2 c2
    refine ev_iconst (pc1 := 12) (x := (-1)) (by decide) (TBof tbs_46 _ rfl) rfl ?_
    exact ev_ireturn (TBof tbs_46 _ rfl) (retI_i rt_46) ⟨_, rfl, H⟩
set_option maxRecDepth 100000 in
theorem R_X3_take_0 {d : Nat} {v1 : Int32} {M : Im} {h : Hm} {D : Dm} {Q : Int32 → Im → Hm → Dm → Prop} (H : CI d nX3_isThing [.int v1] M h D (fun x1 M1 h1 D1 => ((¬ (x1 = 0)) → (((¬ ((M1 1 1) = 0)) → (CI d nX2_isInHand [.ref 1, .int v1] M1 h1 D1 (fun x4 M4 h4 D4 => ((x4 = 0) → (CI d nX2_canTake [.ref 1, .int v1] M4 h4 D4 (fun x6 M6 h6 D6 => ((¬ (x6 = 0)) → (CV d nX3_recordState [.ref 0] M6 h6 D6 (fun M8 h8 D8 => CI d nX3_bit [.int v1] M8 h8 D8 (fun x9 M9 h9 D9 => CV d nX2_addStep [.ref 1, .int 1] (up2 M9 1 6 ((M8 1 6) ||| x9)) h9 D9 (fun M10 h10 D10 => CI d nJ6_bitCount_0f7a4 [.int (M10 1 6)] M10 h10 D10 (fun x11 M11 h11 D11 => Q x11 M11 h11 D11)))))) ∧ (¬ (¬ (x6 = 0)) → (Q (-4) M6 h6 D6))))) ∧ (¬ (x4 = 0) → (Q (-5) M4 h4 D4))))) ∧ (¬ (¬ ((M1 1 1) = 0)) → (Q (-4) M1 h1 D1)))) ∧ (¬ (¬ (x1 = 0)) → (Q (-1) M1 h1 D1)))) : EvI d nX3_take 0 [(0, .ref 0), (1, .int v1)] [] M h D Q := by
  refine ev_iload_n (pc1 := 1) rfl (TBof tbs_47 _ rfl) rfl ?_
  refine ev_callsI (pc1 := 4) (as := [.int v1]) (r := []) (TBof tbs_47 _ rfl) rfl (lnkof mo_47 ln_3_97) (Or.inl rfl) rfl na_58 (Nat.le_of_ble_eq_true rfl) H (fun x1 M1 h1 D1 H => ?_)
  refine ev_if (pc1 := 7) (t := 9) (TBof tbs_47 _ rfl) (by decide) rfl (fun c2 => ?_) (fun c2 => ?_)
  · replace H := H.1 c2
    refine ev_aload_n (pc1 := 10) rfl rfl (TBof tbs_47 _ rfl) rfl ?_
    refine ev_getP (pc1 := 13) (ci := 3) (k := 0) (a := 1) (TBof tbs_47 _ rfl) rfl (fldof mo_47 fl_3_12) ltc_0 sh_0 nk_3_0 fp_3_0 (by decide) pf_0_0 ?_
    refine ev_getI (pc1 := 16) (ci := 2) (k := 1) (TBof tbs_47 _ rfl) rfl (fldof mo_47 fl_3_59) ltc_1 sh_1 nk_2_1 fi_2_1 ?_
    refine ev_if (pc1 := 19) (t := 22) (TBof tbs_47 _ rfl) (by decide) rfl (fun c3 => ?_) (fun c3 => ?_)
    · replace H := H.1 c3
      refine ev_aload_n (pc1 := 23) rfl rfl (TBof tbs_47 _ rfl) rfl ?_
      refine ev_getP (pc1 := 26) (ci := 3) (k := 0) (a := 1) (TBof tbs_47 _ rfl) rfl (fldof mo_47 fl_3_12) ltc_0 sh_0 nk_3_0 fp_3_0 (by decide) pf_0_0 ?_
      refine ev_iload_n (pc1 := 27) rfl (TBof tbs_47 _ rfl) rfl ?_
      refine ev_callvI (pc1 := 30) (as := [.int v1]) (r := []) (TBof tbs_47 _ rfl) rfl (lnkof mo_47 ln_3_159) rfl na_20 ltc_1 (sh_1.trans (by rw [mo_20])) (Nat.le_of_ble_eq_true rfl) H (fun x4 M4 h4 D4 H => ?_)
      refine ev_if (pc1 := 33) (t := 36) (TBof tbs_47 _ rfl) (by decide) rfl (fun c5 => ?_) (fun c5 => ?_)
      · replace H := H.1 c5
        refine ev_aload_n (pc1 := 37) rfl rfl (TBof tbs_47 _ rfl) rfl ?_
        refine ev_getP (pc1 := 40) (ci := 3) (k := 0) (a := 1) (TBof tbs_47 _ rfl) rfl (fldof mo_47 fl_3_12) ltc_0 sh_0 nk_3_0 fp_3_0 (by decide) pf_0_0 ?_
        refine ev_iload_n (pc1 := 41) rfl (TBof tbs_47 _ rfl) rfl ?_
        refine ev_callvI (pc1 := 44) (as := [.int v1]) (r := []) (TBof tbs_47 _ rfl) rfl (lnkof mo_47 ln_3_162) rfl na_26 ltc_1 (sh_1.trans (by rw [mo_26])) (Nat.le_of_ble_eq_true rfl) H (fun x6 M6 h6 D6 H => ?_)
        refine ev_if (pc1 := 47) (t := 50) (TBof tbs_47 _ rfl) (by decide) rfl (fun c7 => ?_) (fun c7 => ?_)
        · replace H := H.1 c7
          refine ev_aload_n (pc1 := 51) rfl rfl (TBof tbs_47 _ rfl) rfl ?_
          refine ev_callvV (pc1 := 54) (as := []) (r := []) (TBof tbs_47 _ rfl) rfl (lnkof mo_47 ln_3_62) rfl na_63 ltc_0 (sh_0.trans (by rw [mo_63])) (Nat.le_of_ble_eq_true rfl) H (fun M8 h8 D8 H => ?_)
          refine ev_aload_n (pc1 := 55) rfl rfl (TBof tbs_47 _ rfl) rfl ?_
          refine ev_getP (pc1 := 58) (ci := 3) (k := 0) (a := 1) (TBof tbs_47 _ rfl) rfl (fldof mo_47 fl_3_12) ltc_0 sh_0 nk_3_0 fp_3_0 (by decide) pf_0_0 ?_
          refine ev_dup (pc1 := 59) rfl (TBof tbs_47 _ rfl) rfl ?_
          refine ev_getI (pc1 := 62) (ci := 2) (k := 6) (TBof tbs_47 _ rfl) rfl (fldof mo_47 fl_3_165) ltc_1 sh_1 nk_2_6 fi_2_6 ?_
          refine ev_iload_n (pc1 := 63) rfl (TBof tbs_47 _ rfl) rfl ?_
          refine ev_callsI (pc1 := 66) (as := [.int v1]) (r := [.int (M8 1 6), .ref 1]) (TBof tbs_47 _ rfl) rfl (lnkof mo_47 ln_3_147) (Or.inl rfl) rfl na_60 (Nat.le_of_ble_eq_true rfl) H (fun x9 M9 h9 D9 H => ?_)
          refine ev_ior (pc1 := 67) (TBof tbs_47 _ rfl) rfl ?_
          refine ev_putI (pc1 := 70) (ci := 2) (k := 6) (TBof tbs_47 _ rfl) rfl (fldof mo_47 fl_3_165) ltc_1 sh_1 nk_2_6 rfl rfl ?_
          refine ev_aload_n (pc1 := 71) rfl rfl (TBof tbs_47 _ rfl) rfl ?_
          refine ev_getP (pc1 := 74) (ci := 3) (k := 0) (a := 1) (TBof tbs_47 _ rfl) rfl (fldof mo_47 fl_3_12) ltc_0 sh_0 nk_3_0 fp_3_0 (by decide) pf_0_0 ?_
          refine ev_iconst (pc1 := 75) (x := 1) (by decide) (TBof tbs_47 _ rfl) rfl ?_
          refine ev_callvV (pc1 := 78) (as := [.int 1]) (r := []) (TBof tbs_47 _ rfl) rfl (lnkof mo_47 ln_3_132) rfl na_29 ltc_1 (sh_1.trans (by rw [mo_29])) (Nat.le_of_ble_eq_true rfl) H (fun M10 h10 D10 H => ?_)
          refine ev_aload_n (pc1 := 79) rfl rfl (TBof tbs_47 _ rfl) rfl ?_
          refine ev_getP (pc1 := 82) (ci := 3) (k := 0) (a := 1) (TBof tbs_47 _ rfl) rfl (fldof mo_47 fl_3_12) ltc_0 sh_0 nk_3_0 fp_3_0 (by decide) pf_0_0 ?_
          refine ev_getI (pc1 := 85) (ci := 2) (k := 6) (TBof tbs_47 _ rfl) rfl (fldof mo_47 fl_3_165) ltc_1 sh_1 nk_2_6 fi_2_6 ?_
          refine ev_callsI (pc1 := 88) (as := [.int (M10 1 6)]) (r := []) (TBof tbs_47 _ rfl) rfl (lnkof mo_47 ln_3_138) (Or.inl rfl) rfl na_68 (Nat.le_of_ble_eq_true rfl) H (fun x11 M11 h11 D11 H => ?_)
          exact ev_ireturn (TBof tbs_47 _ rfl) (retI_i rt_47) ⟨_, rfl, H⟩
        · replace H := H.2 c7
          refine ev_bipush (pc1 := 49) (x := (-4)) (by decide) (TBof tbs_47 _ rfl) rfl ?_
          exact ev_ireturn (TBof tbs_47 _ rfl) (retI_i rt_47) ⟨_, rfl, H⟩
      · replace H := H.2 c5
        refine ev_bipush (pc1 := 35) (x := (-5)) (by decide) (TBof tbs_47 _ rfl) rfl ?_
        exact ev_ireturn (TBof tbs_47 _ rfl) (retI_i rt_47) ⟨_, rfl, H⟩
    · replace H := H.2 c3
      refine ev_bipush (pc1 := 21) (x := (-4)) (by decide) (TBof tbs_47 _ rfl) rfl ?_
      exact ev_ireturn (TBof tbs_47 _ rfl) (retI_i rt_47) ⟨_, rfl, H⟩
  · replace H := H.2 c2
    refine ev_iconst (pc1 := 8) (x := (-1)) (by decide) (TBof tbs_47 _ rfl) rfl ?_
    exact ev_ireturn (TBof tbs_47 _ rfl) (retI_i rt_47) ⟨_, rfl, H⟩
set_option maxRecDepth 100000 in
theorem R_X3_seal_0 {d : Nat} {v1 : Int32} {M : Im} {h : Hm} {D : Dm} {Q : Int32 → Im → Hm → Dm → Prop} (H : CI d nX2_isThere [.ref 1, .int v1] M h D (fun x1 M1 h1 D1 => ((¬ (x1 = 0)) → (((¬ ((M1 1 1) = 0)) → (CI d nX3_isIn [.int (M1 1 5), .int v1] M1 h1 D1 (fun x4 M4 h4 D4 => ((¬ (x4 = 0)) → (CI d nX2_canSeal [.ref 1, .int v1] M4 h4 D4 (fun x6 M6 h6 D6 => ((¬ (x6 = 0)) → (CV d nX3_recordState [.ref 0] M6 h6 D6 (fun M8 h8 D8 => CI d nX3_bit [.int v1] M8 h8 D8 (fun x9 M9 h9 D9 => CV d nX2_addStep [.ref 1, .int 12] (up2 M9 1 5 ((M8 1 5) &&& (x9 ^^^ (-1)))) h9 D9 (fun M10 h10 D10 => CI d nJ6_bitCount_0f7a4 [.int (M10 1 5)] M10 h10 D10 (fun x11 M11 h11 D11 => Q x11 M11 h11 D11)))))) ∧ (¬ (¬ (x6 = 0)) → (Q (-4) M6 h6 D6))))) ∧ (¬ (¬ (x4 = 0)) → (Q (-5) M4 h4 D4))))) ∧ (¬ (¬ ((M1 1 1) = 0)) → (Q (-4) M1 h1 D1)))) ∧ (¬ (¬ (x1 = 0)) → (Q (-1) M1 h1 D1)))) : EvI d nX3_seal 0 [(0, .ref 0), (1, .int v1)] [] M h D Q := by
  refine ev_aload_n (pc1 := 1) rfl rfl (TBof tbs_48 _ rfl) rfl ?_
  refine ev_getP (pc1 := 4) (ci := 3) (k := 0) (a := 1) (TBof tbs_48 _ rfl) rfl (fldof mo_48 fl_3_12) ltc_0 sh_0 nk_3_0 fp_3_0 (by decide) pf_0_0 ?_
  refine ev_iload_n (pc1 := 5) rfl (TBof tbs_48 _ rfl) rfl ?_
  refine ev_callvI (pc1 := 8) (as := [.int v1]) (r := []) (TBof tbs_48 _ rfl) rfl (lnkof mo_48 ln_3_48) rfl na_18 ltc_1 (sh_1.trans (by rw [mo_18])) (Nat.le_of_ble_eq_true rfl) H (fun x1 M1 h1 D1 H => ?_)
  refine ev_if (pc1 := 11) (t := 13) (TBof tbs_48 _ rfl) (by decide) rfl (fun c2 => ?_) (fun c2 => ?_)
  · replace H := H.1 c2
    refine ev_aload_n (pc1 := 14) rfl rfl (TBof tbs_48 _ rfl) rfl ?_
    refine ev_getP (pc1 := 17) (ci := 3) (k := 0) (a := 1) (TBof tbs_48 _ rfl) rfl (fldof mo_48 fl_3_12) ltc_0 sh_0 nk_3_0 fp_3_0 (by decide) pf_0_0 ?_
    refine ev_getI (pc1 := 20) (ci := 2) (k := 1) (TBof tbs_48 _ rfl) rfl (fldof mo_48 fl_3_59) ltc_1 sh_1 nk_2_1 fi_2_1 ?_
    refine ev_if (pc1 := 23) (t := 26) (TBof tbs_48 _ rfl) (by decide) rfl (fun c3 => ?_) (fun c3 => ?_)
    · replace H := H.1 c3
      refine ev_aload_n (pc1 := 27) rfl rfl (TBof tbs_48 _ rfl) rfl ?_
      refine ev_getP (pc1 := 30) (ci := 3) (k := 0) (a := 1) (TBof tbs_48 _ rfl) rfl (fldof mo_48 fl_3_12) ltc_0 sh_0 nk_3_0 fp_3_0 (by decide) pf_0_0 ?_
      refine ev_getI (pc1 := 33) (ci := 2) (k := 5) (TBof tbs_48 _ rfl) rfl (fldof mo_48 fl_3_168) ltc_1 sh_1 nk_2_5 fi_2_5 ?_
      refine ev_iload_n (pc1 := 34) rfl (TBof tbs_48 _ rfl) rfl ?_
      refine ev_callsI (pc1 := 37) (as := [.int (M1 1 5), .int v1]) (r := []) (TBof tbs_48 _ rfl) rfl (lnkof mo_48 ln_3_171) (Or.inl rfl) rfl na_61 (Nat.le_of_ble_eq_true rfl) H (fun x4 M4 h4 D4 H => ?_)
      refine ev_if (pc1 := 40) (t := 43) (TBof tbs_48 _ rfl) (by decide) rfl (fun c5 => ?_) (fun c5 => ?_)
      · replace H := H.1 c5
        refine ev_aload_n (pc1 := 44) rfl rfl (TBof tbs_48 _ rfl) rfl ?_
        refine ev_getP (pc1 := 47) (ci := 3) (k := 0) (a := 1) (TBof tbs_48 _ rfl) rfl (fldof mo_48 fl_3_12) ltc_0 sh_0 nk_3_0 fp_3_0 (by decide) pf_0_0 ?_
        refine ev_iload_n (pc1 := 48) rfl (TBof tbs_48 _ rfl) rfl ?_
        refine ev_callvI (pc1 := 51) (as := [.int v1]) (r := []) (TBof tbs_48 _ rfl) rfl (lnkof mo_48 ln_3_174) rfl na_27 ltc_1 (sh_1.trans (by rw [mo_27])) (Nat.le_of_ble_eq_true rfl) H (fun x6 M6 h6 D6 H => ?_)
        refine ev_if (pc1 := 54) (t := 57) (TBof tbs_48 _ rfl) (by decide) rfl (fun c7 => ?_) (fun c7 => ?_)
        · replace H := H.1 c7
          refine ev_aload_n (pc1 := 58) rfl rfl (TBof tbs_48 _ rfl) rfl ?_
          refine ev_callvV (pc1 := 61) (as := []) (r := []) (TBof tbs_48 _ rfl) rfl (lnkof mo_48 ln_3_62) rfl na_63 ltc_0 (sh_0.trans (by rw [mo_63])) (Nat.le_of_ble_eq_true rfl) H (fun M8 h8 D8 H => ?_)
          refine ev_aload_n (pc1 := 62) rfl rfl (TBof tbs_48 _ rfl) rfl ?_
          refine ev_getP (pc1 := 65) (ci := 3) (k := 0) (a := 1) (TBof tbs_48 _ rfl) rfl (fldof mo_48 fl_3_12) ltc_0 sh_0 nk_3_0 fp_3_0 (by decide) pf_0_0 ?_
          refine ev_dup (pc1 := 66) rfl (TBof tbs_48 _ rfl) rfl ?_
          refine ev_getI (pc1 := 69) (ci := 2) (k := 5) (TBof tbs_48 _ rfl) rfl (fldof mo_48 fl_3_168) ltc_1 sh_1 nk_2_5 fi_2_5 ?_
          refine ev_iload_n (pc1 := 70) rfl (TBof tbs_48 _ rfl) rfl ?_
          refine ev_callsI (pc1 := 73) (as := [.int v1]) (r := [.int (M8 1 5), .ref 1]) (TBof tbs_48 _ rfl) rfl (lnkof mo_48 ln_3_147) (Or.inl rfl) rfl na_60 (Nat.le_of_ble_eq_true rfl) H (fun x9 M9 h9 D9 H => ?_)
          refine ev_iconst (pc1 := 74) (x := (-1)) (by decide) (TBof tbs_48 _ rfl) rfl ?_
          refine ev_ixor (pc1 := 75) (TBof tbs_48 _ rfl) rfl ?_
          refine ev_iand (pc1 := 76) (TBof tbs_48 _ rfl) rfl ?_
          refine ev_putI (pc1 := 79) (ci := 2) (k := 5) (TBof tbs_48 _ rfl) rfl (fldof mo_48 fl_3_168) ltc_1 sh_1 nk_2_5 rfl rfl ?_
          refine ev_aload_n (pc1 := 80) rfl rfl (TBof tbs_48 _ rfl) rfl ?_
          refine ev_getP (pc1 := 83) (ci := 3) (k := 0) (a := 1) (TBof tbs_48 _ rfl) rfl (fldof mo_48 fl_3_12) ltc_0 sh_0 nk_3_0 fp_3_0 (by decide) pf_0_0 ?_
          refine ev_bipush (pc1 := 85) (x := 12) (by decide) (TBof tbs_48 _ rfl) rfl ?_
          refine ev_callvV (pc1 := 88) (as := [.int 12]) (r := []) (TBof tbs_48 _ rfl) rfl (lnkof mo_48 ln_3_132) rfl na_29 ltc_1 (sh_1.trans (by rw [mo_29])) (Nat.le_of_ble_eq_true rfl) H (fun M10 h10 D10 H => ?_)
          refine ev_aload_n (pc1 := 89) rfl rfl (TBof tbs_48 _ rfl) rfl ?_
          refine ev_getP (pc1 := 92) (ci := 3) (k := 0) (a := 1) (TBof tbs_48 _ rfl) rfl (fldof mo_48 fl_3_12) ltc_0 sh_0 nk_3_0 fp_3_0 (by decide) pf_0_0 ?_
          refine ev_getI (pc1 := 95) (ci := 2) (k := 5) (TBof tbs_48 _ rfl) rfl (fldof mo_48 fl_3_168) ltc_1 sh_1 nk_2_5 fi_2_5 ?_
          refine ev_callsI (pc1 := 98) (as := [.int (M10 1 5)]) (r := []) (TBof tbs_48 _ rfl) rfl (lnkof mo_48 ln_3_138) (Or.inl rfl) rfl na_68 (Nat.le_of_ble_eq_true rfl) H (fun x11 M11 h11 D11 H => ?_)
          exact ev_ireturn (TBof tbs_48 _ rfl) (retI_i rt_48) ⟨_, rfl, H⟩
        · replace H := H.2 c7
          refine ev_bipush (pc1 := 56) (x := (-4)) (by decide) (TBof tbs_48 _ rfl) rfl ?_
          exact ev_ireturn (TBof tbs_48 _ rfl) (retI_i rt_48) ⟨_, rfl, H⟩
      · replace H := H.2 c5
        refine ev_bipush (pc1 := 42) (x := (-5)) (by decide) (TBof tbs_48 _ rfl) rfl ?_
        exact ev_ireturn (TBof tbs_48 _ rfl) (retI_i rt_48) ⟨_, rfl, H⟩
    · replace H := H.2 c3
      refine ev_bipush (pc1 := 25) (x := (-4)) (by decide) (TBof tbs_48 _ rfl) rfl ?_
      exact ev_ireturn (TBof tbs_48 _ rfl) (retI_i rt_48) ⟨_, rfl, H⟩
  · replace H := H.2 c2
    refine ev_iconst (pc1 := 12) (x := (-1)) (by decide) (TBof tbs_48 _ rfl) rfl ?_
    exact ev_ireturn (TBof tbs_48 _ rfl) (retI_i rt_48) ⟨_, rfl, H⟩
set_option maxRecDepth 100000 in
theorem R_X3_undo_0 {d : Nat} {M : Im} {h : Hm} {D : Dm} {Q : Int32 → Im → Hm → Dm → Prop} (H : ((0 < (M 0 6)) → (vp_in ((up2 M 0 6 ((M 0 6) - 1)) 0 6) 4 ∧ (∃ a2, h (((up2 M 0 6 ((M 0 6) - 1)) 0 6).toNatClampNeg) = some a2 ∧ St a2 ∧ (CV d nX3_copyState [.ref a2, .ref 1] (up2 M 0 6 ((M 0 6) - 1)) h D (fun M3 h3 D3 => Q (M3 0 6) M3 h3 D3))))) ∧ (¬ (0 < (M 0 6)) → (Q (-5) M h D))) : EvI d nX3_undo 0 [(0, .ref 0)] [] M h D Q := by
  refine ev_aload_n (pc1 := 1) rfl rfl (TBof tbs_49 _ rfl) rfl ?_
  refine ev_getI (pc1 := 4) (ci := 3) (k := 6) (TBof tbs_49 _ rfl) rfl (fldof mo_49 fl_3_40) ltc_0 sh_0 nk_3_6 fi_3_6 ?_
  refine ev_if (pc1 := 7) (t := 10) (TBof tbs_49 _ rfl) (by decide) rfl (fun c1 => ?_) (fun c1 => ?_)
  · replace H := H.1 c1
    refine ev_aload_n (pc1 := 11) rfl rfl (TBof tbs_49 _ rfl) rfl ?_
    refine ev_dup (pc1 := 12) rfl (TBof tbs_49 _ rfl) rfl ?_
    refine ev_getI (pc1 := 15) (ci := 3) (k := 6) (TBof tbs_49 _ rfl) rfl (fldof mo_49 fl_3_40) ltc_0 sh_0 nk_3_6 fi_3_6 ?_
    refine ev_iconst (pc1 := 16) (x := 1) (by decide) (TBof tbs_49 _ rfl) rfl ?_
    refine ev_isub (pc1 := 17) (TBof tbs_49 _ rfl) rfl ?_
    refine ev_putI (pc1 := 20) (ci := 3) (k := 6) (TBof tbs_49 _ rfl) rfl (fldof mo_49 fl_3_40) ltc_0 sh_0 nk_3_6 rfl rfl ?_
    refine ev_aload_n (pc1 := 21) rfl rfl (TBof tbs_49 _ rfl) rfl ?_
    refine ev_getP (pc1 := 24) (ci := 3) (k := 3) (a := 28) (TBof tbs_49 _ rfl) rfl (fldof mo_49 fl_3_22) ltc_0 sh_0 nk_3_3 fp_3_3 (by decide) pf_0_3 ?_
    refine ev_aload_n (pc1 := 25) rfl rfl (TBof tbs_49 _ rfl) rfl ?_
    refine ev_getI (pc1 := 28) (ci := 3) (k := 6) (TBof tbs_49 _ rfl) rfl (fldof mo_49 fl_3_40) ltc_0 sh_0 nk_3_6 fi_3_6 ?_
    obtain ⟨g2, a2, f2, ha2, H⟩ := H
    refine ev_aaload (pc1 := 29) (TBof tbs_49 _ rfl) rfl g2 f2 ?_
    refine ev_aload_n (pc1 := 30) rfl rfl (TBof tbs_49 _ rfl) rfl ?_
    refine ev_getP (pc1 := 33) (ci := 3) (k := 0) (a := 1) (TBof tbs_49 _ rfl) rfl (fldof mo_49 fl_3_12) ltc_0 sh_0 nk_3_0 fp_3_0 (by decide) pf_0_0 ?_
    refine ev_callsV (pc1 := 36) (as := [.ref a2, .ref 1]) (r := []) (TBof tbs_49 _ rfl) rfl (lnkof mo_49 ln_3_184) (Or.inl rfl) rfl na_65 (Nat.le_of_ble_eq_true rfl) H (fun M3 h3 D3 H => ?_)
    refine ev_aload_n (pc1 := 37) rfl rfl (TBof tbs_49 _ rfl) rfl ?_
    refine ev_getI (pc1 := 40) (ci := 3) (k := 6) (TBof tbs_49 _ rfl) rfl (fldof mo_49 fl_3_40) ltc_0 sh_0 nk_3_6 fi_3_6 ?_
    exact ev_ireturn (TBof tbs_49 _ rfl) (retI_i rt_49) ⟨_, rfl, H⟩
  · replace H := H.2 c1
    refine ev_bipush (pc1 := 9) (x := (-5)) (by decide) (TBof tbs_49 _ rfl) rfl ?_
    exact ev_ireturn (TBof tbs_49 _ rfl) (retI_i rt_49) ⟨_, rfl, H⟩
set_option maxRecDepth 100000 in
theorem R_X3_drawer_0 {d : Nat} {v1 v2 : Int32} {M : Im} {h : Hm} {D : Dm} {Q : Int32 → Im → Hm → Dm → Prop} (H : CI d nX2_isThere [.ref 1, .int v1] M h D (fun x1 M1 h1 D1 => ((¬ (x1 = 0)) → (((v2.toInt < 0 ∨ 10 < v2.toInt) → (Q (-2) M1 h1 D1)) ∧ ((v2 = 0) → (vp_in v1 16 ∧ (Q (M1 2 (v1.toNatClampNeg)) M1 h1 D1))) ∧ ((v2 = 1) → (vp_in v1 16 ∧ (Q (M1 3 (v1.toNatClampNeg)) M1 h1 D1))) ∧ ((v2 = 2) → (vp_in v1 16 ∧ (Q (M1 4 (v1.toNatClampNeg)) M1 h1 D1))) ∧ ((v2 = 3) → (vp_in v1 16 ∧ (Q (M1 5 (v1.toNatClampNeg)) M1 h1 D1))) ∧ ((v2 = 4) → (vp_in v1 16 ∧ (Q (M1 6 (v1.toNatClampNeg)) M1 h1 D1))) ∧ ((v2 = 5) → (vp_in v1 16 ∧ (Q (M1 7 (v1.toNatClampNeg)) M1 h1 D1))) ∧ ((v2 = 6) → (CI d nX2_isOpen [.ref 1, .int v1] M1 h1 D1 (fun x4 M4 h4 D4 => CI d nX3_oneIf [.int x4] M4 h4 D4 (fun x5 M5 h5 D5 => Q x5 M5 h5 D5)))) ∧ ((v2 = 7) → (CI d nX3_isIn [.int (M1 1 5), .int v1] M1 h1 D1 (fun x6 M6 h6 D6 => CI d nX3_oneIf [.int x6] M6 h6 D6 (fun x7 M7 h7 D7 => Q x7 M7 h7 D7)))) ∧ ((v2 = 8) → (CI d nX2_isReached [.ref 1, .int v1] M1 h1 D1 (fun x8 M8 h8 D8 => CI d nX3_oneIf [.int x8] M8 h8 D8 (fun x9 M9 h9 D9 => Q x9 M9 h9 D9)))) ∧ ((v2 = 9) → (CI d nX2_countThingsIn [.ref 1, .int v1] M1 h1 D1 (fun x10 M10 h10 D10 => Q x10 M10 h10 D10))) ∧ ((v2 = 10) → (CI d nX2_countOuters [.ref 1, .int v1] M1 h1 D1 (fun x11 M11 h11 D11 => Q x11 M11 h11 D11))))) ∧ (¬ (¬ (x1 = 0)) → (Q (-1) M1 h1 D1)))) : EvI d nX3_drawer 0 [(0, .ref 0), (1, .int v1), (2, .int v2)] [] M h D Q := by
  refine ev_aload_n (pc1 := 1) rfl rfl (TBof tbs_50 _ rfl) rfl ?_
  refine ev_getP (pc1 := 4) (ci := 3) (k := 0) (a := 1) (TBof tbs_50 _ rfl) rfl (fldof mo_50 fl_3_12) ltc_0 sh_0 nk_3_0 fp_3_0 (by decide) pf_0_0 ?_
  refine ev_iload_n (pc1 := 5) rfl (TBof tbs_50 _ rfl) rfl ?_
  refine ev_callvI (pc1 := 8) (as := [.int v1]) (r := []) (TBof tbs_50 _ rfl) rfl (lnkof mo_50 ln_3_48) rfl na_18 ltc_1 (sh_1.trans (by rw [mo_18])) (Nat.le_of_ble_eq_true rfl) H (fun x1 M1 h1 D1 H => ?_)
  refine ev_if (pc1 := 11) (t := 13) (TBof tbs_50 _ rfl) (by decide) rfl (fun c2 => ?_) (fun c2 => ?_)
  · replace H := H.1 c2
    refine ev_iload_n (pc1 := 14) rfl (TBof tbs_50 _ rfl) rfl ?_
    refine ev_table (TBof tbs_50 _ rfl) (fun c3 => ⟨189, by decide, ?_⟩) (fun c3 => ?_)
    · replace H := H.1 c3
      refine ev_bipush (pc1 := 191) (x := (-2)) (by decide) (TBof tbs_50 _ rfl) rfl ?_
      exact ev_ireturn (TBof tbs_50 _ rfl) (retI_i rt_50) ⟨_, rfl, H⟩
    · have e3 : v2.toInt = 0 ∨ v2.toInt = 1 ∨ v2.toInt = 2 ∨ v2.toInt = 3 ∨ v2.toInt = 4 ∨ v2.toInt = 5 ∨ v2.toInt = 6 ∨ v2.toInt = 7 ∨ v2.toInt = 8 ∨ v2.toInt = 9 ∨ v2.toInt = 10 := by omega
      replace H := H.2
      rcases e3 with e3 | e3 | e3 | e3 | e3 | e3 | e3 | e3 | e3 | e3 | e3
      · refine ⟨58, 72, by rw [e3]; rfl, by decide, ?_⟩
        replace H := H.1 (Int32.toInt_inj.mp (by rw [e3]; decide))
        refine ev_aload_n (pc1 := 73) rfl rfl (TBof tbs_50 _ rfl) rfl ?_
        refine ev_getP (pc1 := 76) (ci := 3) (k := 0) (a := 1) (TBof tbs_50 _ rfl) rfl (fldof mo_50 fl_3_12) ltc_0 sh_0 nk_3_0 fp_3_0 (by decide) pf_0_0 ?_
        refine ev_getP (pc1 := 79) (ci := 2) (k := 7) (a := 2) (TBof tbs_50 _ rfl) rfl (fldof mo_50 fl_3_188) ltc_1 sh_1 nk_2_7 fp_2_7 (by decide) pf_1_7 ?_
        refine ev_iload_n (pc1 := 80) rfl (TBof tbs_50 _ rfl) rfl ?_
        refine ev_iaload (pc1 := 81) (n := 16) (TBof tbs_50 _ rfl) rfl ltc_2 sh_2 H.1 ?_
        replace H := H.2
        exact ev_ireturn (TBof tbs_50 _ rfl) (retI_i rt_50) ⟨_, rfl, H⟩
      · refine ⟨68, 82, by rw [e3]; rfl, by decide, ?_⟩
        replace H := H.2.1 (Int32.toInt_inj.mp (by rw [e3]; decide))
        refine ev_aload_n (pc1 := 83) rfl rfl (TBof tbs_50 _ rfl) rfl ?_
        refine ev_getP (pc1 := 86) (ci := 3) (k := 0) (a := 1) (TBof tbs_50 _ rfl) rfl (fldof mo_50 fl_3_12) ltc_0 sh_0 nk_3_0 fp_3_0 (by decide) pf_0_0 ?_
        refine ev_getP (pc1 := 89) (ci := 2) (k := 8) (a := 3) (TBof tbs_50 _ rfl) rfl (fldof mo_50 fl_3_189) ltc_1 sh_1 nk_2_8 fp_2_8 (by decide) pf_1_8 ?_
        refine ev_iload_n (pc1 := 90) rfl (TBof tbs_50 _ rfl) rfl ?_
        refine ev_iaload (pc1 := 91) (n := 16) (TBof tbs_50 _ rfl) rfl ltc_3 sh_3 H.1 ?_
        replace H := H.2
        exact ev_ireturn (TBof tbs_50 _ rfl) (retI_i rt_50) ⟨_, rfl, H⟩
      · refine ⟨78, 92, by rw [e3]; rfl, by decide, ?_⟩
        replace H := H.2.2.1 (Int32.toInt_inj.mp (by rw [e3]; decide))
        refine ev_aload_n (pc1 := 93) rfl rfl (TBof tbs_50 _ rfl) rfl ?_
        refine ev_getP (pc1 := 96) (ci := 3) (k := 0) (a := 1) (TBof tbs_50 _ rfl) rfl (fldof mo_50 fl_3_12) ltc_0 sh_0 nk_3_0 fp_3_0 (by decide) pf_0_0 ?_
        refine ev_getP (pc1 := 99) (ci := 2) (k := 9) (a := 4) (TBof tbs_50 _ rfl) rfl (fldof mo_50 fl_3_190) ltc_1 sh_1 nk_2_9 fp_2_9 (by decide) pf_1_9 ?_
        refine ev_iload_n (pc1 := 100) rfl (TBof tbs_50 _ rfl) rfl ?_
        refine ev_iaload (pc1 := 101) (n := 16) (TBof tbs_50 _ rfl) rfl ltc_4 sh_4 H.1 ?_
        replace H := H.2
        exact ev_ireturn (TBof tbs_50 _ rfl) (retI_i rt_50) ⟨_, rfl, H⟩
      · refine ⟨88, 102, by rw [e3]; rfl, by decide, ?_⟩
        replace H := H.2.2.2.1 (Int32.toInt_inj.mp (by rw [e3]; decide))
        refine ev_aload_n (pc1 := 103) rfl rfl (TBof tbs_50 _ rfl) rfl ?_
        refine ev_getP (pc1 := 106) (ci := 3) (k := 0) (a := 1) (TBof tbs_50 _ rfl) rfl (fldof mo_50 fl_3_12) ltc_0 sh_0 nk_3_0 fp_3_0 (by decide) pf_0_0 ?_
        refine ev_getP (pc1 := 109) (ci := 2) (k := 10) (a := 5) (TBof tbs_50 _ rfl) rfl (fldof mo_50 fl_3_129) ltc_1 sh_1 nk_2_10 fp_2_10 (by decide) pf_1_10 ?_
        refine ev_iload_n (pc1 := 110) rfl (TBof tbs_50 _ rfl) rfl ?_
        refine ev_iaload (pc1 := 111) (n := 16) (TBof tbs_50 _ rfl) rfl ltc_5 sh_5 H.1 ?_
        replace H := H.2
        exact ev_ireturn (TBof tbs_50 _ rfl) (retI_i rt_50) ⟨_, rfl, H⟩
      · refine ⟨98, 112, by rw [e3]; rfl, by decide, ?_⟩
        replace H := H.2.2.2.2.1 (Int32.toInt_inj.mp (by rw [e3]; decide))
        refine ev_aload_n (pc1 := 113) rfl rfl (TBof tbs_50 _ rfl) rfl ?_
        refine ev_getP (pc1 := 116) (ci := 3) (k := 0) (a := 1) (TBof tbs_50 _ rfl) rfl (fldof mo_50 fl_3_12) ltc_0 sh_0 nk_3_0 fp_3_0 (by decide) pf_0_0 ?_
        refine ev_getP (pc1 := 119) (ci := 2) (k := 11) (a := 6) (TBof tbs_50 _ rfl) rfl (fldof mo_50 fl_3_92) ltc_1 sh_1 nk_2_11 fp_2_11 (by decide) pf_1_11 ?_
        refine ev_iload_n (pc1 := 120) rfl (TBof tbs_50 _ rfl) rfl ?_
        refine ev_iaload (pc1 := 121) (n := 16) (TBof tbs_50 _ rfl) rfl ltc_6 sh_6 H.1 ?_
        replace H := H.2
        exact ev_ireturn (TBof tbs_50 _ rfl) (retI_i rt_50) ⟨_, rfl, H⟩
      · refine ⟨108, 122, by rw [e3]; rfl, by decide, ?_⟩
        replace H := H.2.2.2.2.2.1 (Int32.toInt_inj.mp (by rw [e3]; decide))
        refine ev_aload_n (pc1 := 123) rfl rfl (TBof tbs_50 _ rfl) rfl ?_
        refine ev_getP (pc1 := 126) (ci := 3) (k := 0) (a := 1) (TBof tbs_50 _ rfl) rfl (fldof mo_50 fl_3_12) ltc_0 sh_0 nk_3_0 fp_3_0 (by decide) pf_0_0 ?_
        refine ev_getP (pc1 := 129) (ci := 2) (k := 12) (a := 7) (TBof tbs_50 _ rfl) rfl (fldof mo_50 fl_3_156) ltc_1 sh_1 nk_2_12 fp_2_12 (by decide) pf_1_12 ?_
        refine ev_iload_n (pc1 := 130) rfl (TBof tbs_50 _ rfl) rfl ?_
        refine ev_iaload (pc1 := 131) (n := 16) (TBof tbs_50 _ rfl) rfl ltc_7 sh_7 H.1 ?_
        replace H := H.2
        exact ev_ireturn (TBof tbs_50 _ rfl) (retI_i rt_50) ⟨_, rfl, H⟩
      · refine ⟨118, 132, by rw [e3]; rfl, by decide, ?_⟩
        replace H := H.2.2.2.2.2.2.1 (Int32.toInt_inj.mp (by rw [e3]; decide))
        refine ev_aload_n (pc1 := 133) rfl rfl (TBof tbs_50 _ rfl) rfl ?_
        refine ev_getP (pc1 := 136) (ci := 3) (k := 0) (a := 1) (TBof tbs_50 _ rfl) rfl (fldof mo_50 fl_3_12) ltc_0 sh_0 nk_3_0 fp_3_0 (by decide) pf_0_0 ?_
        refine ev_iload_n (pc1 := 137) rfl (TBof tbs_50 _ rfl) rfl ?_
        refine ev_callvI (pc1 := 140) (as := [.int v1]) (r := []) (TBof tbs_50 _ rfl) rfl (lnkof mo_50 ln_3_119) rfl na_19 ltc_1 (sh_1.trans (by rw [mo_19])) (Nat.le_of_ble_eq_true rfl) H (fun x4 M4 h4 D4 H => ?_)
        refine ev_callsI (pc1 := 143) (as := [.int x4]) (r := []) (TBof tbs_50 _ rfl) rfl (lnkof mo_50 ln_3_191) (Or.inl rfl) rfl na_59 (Nat.le_of_ble_eq_true rfl) H (fun x5 M5 h5 D5 H => ?_)
        exact ev_ireturn (TBof tbs_50 _ rfl) (retI_i rt_50) ⟨_, rfl, H⟩
      · refine ⟨130, 144, by rw [e3]; rfl, by decide, ?_⟩
        replace H := H.2.2.2.2.2.2.2.1 (Int32.toInt_inj.mp (by rw [e3]; decide))
        refine ev_aload_n (pc1 := 145) rfl rfl (TBof tbs_50 _ rfl) rfl ?_
        refine ev_getP (pc1 := 148) (ci := 3) (k := 0) (a := 1) (TBof tbs_50 _ rfl) rfl (fldof mo_50 fl_3_12) ltc_0 sh_0 nk_3_0 fp_3_0 (by decide) pf_0_0 ?_
        refine ev_getI (pc1 := 151) (ci := 2) (k := 5) (TBof tbs_50 _ rfl) rfl (fldof mo_50 fl_3_168) ltc_1 sh_1 nk_2_5 fi_2_5 ?_
        refine ev_iload_n (pc1 := 152) rfl (TBof tbs_50 _ rfl) rfl ?_
        refine ev_callsI (pc1 := 155) (as := [.int (M1 1 5), .int v1]) (r := []) (TBof tbs_50 _ rfl) rfl (lnkof mo_50 ln_3_171) (Or.inl rfl) rfl na_61 (Nat.le_of_ble_eq_true rfl) H (fun x6 M6 h6 D6 H => ?_)
        refine ev_callsI (pc1 := 158) (as := [.int x6]) (r := []) (TBof tbs_50 _ rfl) rfl (lnkof mo_50 ln_3_191) (Or.inl rfl) rfl na_59 (Nat.le_of_ble_eq_true rfl) H (fun x7 M7 h7 D7 H => ?_)
        exact ev_ireturn (TBof tbs_50 _ rfl) (retI_i rt_50) ⟨_, rfl, H⟩
      · refine ⟨145, 159, by rw [e3]; rfl, by decide, ?_⟩
        replace H := H.2.2.2.2.2.2.2.2.1 (Int32.toInt_inj.mp (by rw [e3]; decide))
        refine ev_aload_n (pc1 := 160) rfl rfl (TBof tbs_50 _ rfl) rfl ?_
        refine ev_getP (pc1 := 163) (ci := 3) (k := 0) (a := 1) (TBof tbs_50 _ rfl) rfl (fldof mo_50 fl_3_12) ltc_0 sh_0 nk_3_0 fp_3_0 (by decide) pf_0_0 ?_
        refine ev_iload_n (pc1 := 164) rfl (TBof tbs_50 _ rfl) rfl ?_
        refine ev_callvI (pc1 := 167) (as := [.int v1]) (r := []) (TBof tbs_50 _ rfl) rfl (lnkof mo_50 ln_3_144) rfl na_21 ltc_1 (sh_1.trans (by rw [mo_21])) (Nat.le_of_ble_eq_true rfl) H (fun x8 M8 h8 D8 H => ?_)
        refine ev_callsI (pc1 := 170) (as := [.int x8]) (r := []) (TBof tbs_50 _ rfl) rfl (lnkof mo_50 ln_3_191) (Or.inl rfl) rfl na_59 (Nat.le_of_ble_eq_true rfl) H (fun x9 M9 h9 D9 H => ?_)
        exact ev_ireturn (TBof tbs_50 _ rfl) (retI_i rt_50) ⟨_, rfl, H⟩
      · refine ⟨157, 171, by rw [e3]; rfl, by decide, ?_⟩
        replace H := H.2.2.2.2.2.2.2.2.2.1 (Int32.toInt_inj.mp (by rw [e3]; decide))
        refine ev_aload_n (pc1 := 172) rfl rfl (TBof tbs_50 _ rfl) rfl ?_
        refine ev_getP (pc1 := 175) (ci := 3) (k := 0) (a := 1) (TBof tbs_50 _ rfl) rfl (fldof mo_50 fl_3_12) ltc_0 sh_0 nk_3_0 fp_3_0 (by decide) pf_0_0 ?_
        refine ev_iload_n (pc1 := 176) rfl (TBof tbs_50 _ rfl) rfl ?_
        refine ev_callvI (pc1 := 179) (as := [.int v1]) (r := []) (TBof tbs_50 _ rfl) rfl (lnkof mo_50 ln_3_195) rfl na_36 ltc_1 (sh_1.trans (by rw [mo_36])) (Nat.le_of_ble_eq_true rfl) H (fun x10 M10 h10 D10 H => ?_)
        exact ev_ireturn (TBof tbs_50 _ rfl) (retI_i rt_50) ⟨_, rfl, H⟩
      · refine ⟨166, 180, by rw [e3]; rfl, by decide, ?_⟩
        replace H := H.2.2.2.2.2.2.2.2.2.2 (Int32.toInt_inj.mp (by rw [e3]; decide))
        refine ev_aload_n (pc1 := 181) rfl rfl (TBof tbs_50 _ rfl) rfl ?_
        refine ev_getP (pc1 := 184) (ci := 3) (k := 0) (a := 1) (TBof tbs_50 _ rfl) rfl (fldof mo_50 fl_3_12) ltc_0 sh_0 nk_3_0 fp_3_0 (by decide) pf_0_0 ?_
        refine ev_iload_n (pc1 := 185) rfl (TBof tbs_50 _ rfl) rfl ?_
        refine ev_callvI (pc1 := 188) (as := [.int v1]) (r := []) (TBof tbs_50 _ rfl) rfl (lnkof mo_50 ln_3_198) rfl na_37 ltc_1 (sh_1.trans (by rw [mo_37])) (Nat.le_of_ble_eq_true rfl) H (fun x11 M11 h11 D11 H => ?_)
        exact ev_ireturn (TBof tbs_50 _ rfl) (retI_i rt_50) ⟨_, rfl, H⟩
  · replace H := H.2 c2
    refine ev_iconst (pc1 := 12) (x := (-1)) (by decide) (TBof tbs_50 _ rfl) rfl ?_
    exact ev_ireturn (TBof tbs_50 _ rfl) (retI_i rt_50) ⟨_, rfl, H⟩
set_option maxRecDepth 100000 in
theorem R_X3_thing_0 {d : Nat} {v1 v2 : Int32} {M : Im} {h : Hm} {D : Dm} {Q : Int32 → Im → Hm → Dm → Prop} (H : CI d nX3_isThing [.int v1] M h D (fun x1 M1 h1 D1 => ((¬ (x1 = 0)) → (CI d nX2_isInHand [.ref 1, .int v1] M1 h1 D1 (fun x3 M3 h3 D3 => ((v2.toInt < 0 ∨ 3 < v2.toInt) → (Q (-2) M3 h3 D3)) ∧ ((v2 = 0) → (((x3 = 0) → (vp_in v1 12 ∧ (Q (M3 8 (v1.toNatClampNeg)) M3 h3 D3))) ∧ (¬ (x3 = 0) → (Q (-5) M3 h3 D3)))) ∧ ((v2 = 1) → (((x3 = 0) → (vp_in v1 12 ∧ (Q (M3 9 (v1.toNatClampNeg)) M3 h3 D3))) ∧ (¬ (x3 = 0) → (Q 0 M3 h3 D3)))) ∧ ((v2 = 2) → (CI d nX3_oneIf [.int x3] M3 h3 D3 (fun x7 M7 h7 D7 => Q x7 M7 h7 D7))) ∧ ((v2 = 3) → ((((M3 1 1) = 0) → (CI d nX3_oneIf [.int 0] M3 h3 D3 (fun x9 M9 h9 D9 => Q x9 M9 h9 D9))) ∧ (¬ ((M3 1 1) = 0) → (CI d nX2_canTake [.ref 1, .int v1] M3 h3 D3 (fun x10 M10 h10 D10 => ((x10 = 0) → (CI d nX3_oneIf [.int 0] M10 h10 D10 (fun x12 M12 h12 D12 => Q x12 M12 h12 D12))) ∧ (¬ (x10 = 0) → (CI d nX3_oneIf [.int 1] M10 h10 D10 (fun x13 M13 h13 D13 => Q x13 M13 h13 D13))))))))))) ∧ (¬ (¬ (x1 = 0)) → (Q (-1) M1 h1 D1)))) : EvI d nX3_thing 0 [(0, .ref 0), (1, .int v1), (2, .int v2)] [] M h D Q := by
  refine ev_iload_n (pc1 := 1) rfl (TBof tbs_51 _ rfl) rfl ?_
  refine ev_callsI (pc1 := 4) (as := [.int v1]) (r := []) (TBof tbs_51 _ rfl) rfl (lnkof mo_51 ln_3_97) (Or.inl rfl) rfl na_58 (Nat.le_of_ble_eq_true rfl) H (fun x1 M1 h1 D1 H => ?_)
  refine ev_if (pc1 := 7) (t := 9) (TBof tbs_51 _ rfl) (by decide) rfl (fun c2 => ?_) (fun c2 => ?_)
  · replace H := H.1 c2
    refine ev_aload_n (pc1 := 10) rfl rfl (TBof tbs_51 _ rfl) rfl ?_
    refine ev_getP (pc1 := 13) (ci := 3) (k := 0) (a := 1) (TBof tbs_51 _ rfl) rfl (fldof mo_51 fl_3_12) ltc_0 sh_0 nk_3_0 fp_3_0 (by decide) pf_0_0 ?_
    refine ev_iload_n (pc1 := 14) rfl (TBof tbs_51 _ rfl) rfl ?_
    refine ev_callvI (pc1 := 17) (as := [.int v1]) (r := []) (TBof tbs_51 _ rfl) rfl (lnkof mo_51 ln_3_159) rfl na_20 ltc_1 (sh_1.trans (by rw [mo_20])) (Nat.le_of_ble_eq_true rfl) H (fun x3 M3 h3 D3 H => ?_)
    refine ev_istore_n (pc1 := 18) (L1 := [(3, .int x3), (0, .ref 0), (1, .int v1), (2, .int v2)]) (by rw [ml_51]; decide) rfl (TBof tbs_51 _ rfl) rfl ?_
    refine ev_iload_n (pc1 := 19) rfl (TBof tbs_51 _ rfl) rfl ?_
    refine ev_table (TBof tbs_51 _ rfl) (fun c4 => ⟨120, by decide, ?_⟩) (fun c4 => ?_)
    · replace H := H.1 c4
      refine ev_bipush (pc1 := 122) (x := (-2)) (by decide) (TBof tbs_51 _ rfl) rfl ?_
      exact ev_ireturn (TBof tbs_51 _ rfl) (retI_i rt_51) ⟨_, rfl, H⟩
    · have e4 : v2.toInt = 0 ∨ v2.toInt = 1 ∨ v2.toInt = 2 ∨ v2.toInt = 3 := by omega
      replace H := H.2
      rcases e4 with e4 | e4 | e4 | e4
      · refine ⟨29, 48, by rw [e4]; rfl, by decide, ?_⟩
        replace H := H.1 (Int32.toInt_inj.mp (by rw [e4]; decide))
        refine ev_iload_n (pc1 := 49) rfl (TBof tbs_51 _ rfl) rfl ?_
        refine ev_if (pc1 := 52) (t := 57) (TBof tbs_51 _ rfl) (by decide) rfl (fun c5 => ?_) (fun c5 => ?_)
        · replace H := H.1 c5
          refine ev_aload_n (pc1 := 58) rfl rfl (TBof tbs_51 _ rfl) rfl ?_
          refine ev_getP (pc1 := 61) (ci := 3) (k := 0) (a := 1) (TBof tbs_51 _ rfl) rfl (fldof mo_51 fl_3_12) ltc_0 sh_0 nk_3_0 fp_3_0 (by decide) pf_0_0 ?_
          refine ev_getP (pc1 := 64) (ci := 2) (k := 13) (a := 8) (TBof tbs_51 _ rfl) rfl (fldof mo_51 fl_3_100) ltc_1 sh_1 nk_2_13 fp_2_13 (by decide) pf_1_13 ?_
          refine ev_iload_n (pc1 := 65) rfl (TBof tbs_51 _ rfl) rfl ?_
          refine ev_iaload (pc1 := 66) (n := 12) (TBof tbs_51 _ rfl) rfl ltc_8 sh_8 H.1 ?_
          replace H := H.2
          exact ev_ireturn (TBof tbs_51 _ rfl) (retI_i rt_51) ⟨_, rfl, H⟩
        · replace H := H.2 c5
          refine ev_bipush (pc1 := 54) (x := (-5)) (by decide) (TBof tbs_51 _ rfl) rfl ?_
          refine ev_goto (pc1 := 66) (TBof tbs_51 _ rfl) (by decide) ?_
          exact ev_ireturn (TBof tbs_51 _ rfl) (retI_i rt_51) ⟨_, rfl, H⟩
      · refine ⟨48, 67, by rw [e4]; rfl, by decide, ?_⟩
        replace H := H.2.1 (Int32.toInt_inj.mp (by rw [e4]; decide))
        refine ev_iload_n (pc1 := 68) rfl (TBof tbs_51 _ rfl) rfl ?_
        refine ev_if (pc1 := 71) (t := 75) (TBof tbs_51 _ rfl) (by decide) rfl (fun c6 => ?_) (fun c6 => ?_)
        · replace H := H.1 c6
          refine ev_aload_n (pc1 := 76) rfl rfl (TBof tbs_51 _ rfl) rfl ?_
          refine ev_getP (pc1 := 79) (ci := 3) (k := 0) (a := 1) (TBof tbs_51 _ rfl) rfl (fldof mo_51 fl_3_12) ltc_0 sh_0 nk_3_0 fp_3_0 (by decide) pf_0_0 ?_
          refine ev_getP (pc1 := 82) (ci := 2) (k := 14) (a := 9) (TBof tbs_51 _ rfl) rfl (fldof mo_51 fl_3_103) ltc_1 sh_1 nk_2_14 fp_2_14 (by decide) pf_1_14 ?_
          refine ev_iload_n (pc1 := 83) rfl (TBof tbs_51 _ rfl) rfl ?_
          refine ev_iaload (pc1 := 84) (n := 12) (TBof tbs_51 _ rfl) rfl ltc_9 sh_9 H.1 ?_
          replace H := H.2
          exact ev_ireturn (TBof tbs_51 _ rfl) (retI_i rt_51) ⟨_, rfl, H⟩
        · replace H := H.2 c6
          refine ev_iconst (pc1 := 72) (x := 0) (by decide) (TBof tbs_51 _ rfl) rfl ?_
          refine ev_goto (pc1 := 84) (TBof tbs_51 _ rfl) (by decide) ?_
          exact ev_ireturn (TBof tbs_51 _ rfl) (retI_i rt_51) ⟨_, rfl, H⟩
      · refine ⟨66, 85, by rw [e4]; rfl, by decide, ?_⟩
        replace H := H.2.2.1 (Int32.toInt_inj.mp (by rw [e4]; decide))
        refine ev_iload_n (pc1 := 86) rfl (TBof tbs_51 _ rfl) rfl ?_
        refine ev_callsI (pc1 := 89) (as := [.int x3]) (r := []) (TBof tbs_51 _ rfl) rfl (lnkof mo_51 ln_3_191) (Or.inl rfl) rfl na_59 (Nat.le_of_ble_eq_true rfl) H (fun x7 M7 h7 D7 H => ?_)
        exact ev_ireturn (TBof tbs_51 _ rfl) (retI_i rt_51) ⟨_, rfl, H⟩
      · refine ⟨71, 90, by rw [e4]; rfl, by decide, ?_⟩
        replace H := H.2.2.2 (Int32.toInt_inj.mp (by rw [e4]; decide))
        refine ev_aload_n (pc1 := 91) rfl rfl (TBof tbs_51 _ rfl) rfl ?_
        refine ev_getP (pc1 := 94) (ci := 3) (k := 0) (a := 1) (TBof tbs_51 _ rfl) rfl (fldof mo_51 fl_3_12) ltc_0 sh_0 nk_3_0 fp_3_0 (by decide) pf_0_0 ?_
        refine ev_getI (pc1 := 97) (ci := 2) (k := 1) (TBof tbs_51 _ rfl) rfl (fldof mo_51 fl_3_59) ltc_1 sh_1 nk_2_1 fi_2_1 ?_
        refine ev_if (pc1 := 100) (t := 115) (TBof tbs_51 _ rfl) (by decide) rfl (fun c8 => ?_) (fun c8 => ?_)
        · replace H := H.1 c8
          refine ev_iconst (pc1 := 116) (x := 0) (by decide) (TBof tbs_51 _ rfl) rfl ?_
          refine ev_callsI (pc1 := 119) (as := [.int 0]) (r := []) (TBof tbs_51 _ rfl) rfl (lnkof mo_51 ln_3_191) (Or.inl rfl) rfl na_59 (Nat.le_of_ble_eq_true rfl) H (fun x9 M9 h9 D9 H => ?_)
          exact ev_ireturn (TBof tbs_51 _ rfl) (retI_i rt_51) ⟨_, rfl, H⟩
        · replace H := H.2 c8
          refine ev_aload_n (pc1 := 101) rfl rfl (TBof tbs_51 _ rfl) rfl ?_
          refine ev_getP (pc1 := 104) (ci := 3) (k := 0) (a := 1) (TBof tbs_51 _ rfl) rfl (fldof mo_51 fl_3_12) ltc_0 sh_0 nk_3_0 fp_3_0 (by decide) pf_0_0 ?_
          refine ev_iload_n (pc1 := 105) rfl (TBof tbs_51 _ rfl) rfl ?_
          refine ev_callvI (pc1 := 108) (as := [.int v1]) (r := []) (TBof tbs_51 _ rfl) rfl (lnkof mo_51 ln_3_162) rfl na_26 ltc_1 (sh_1.trans (by rw [mo_26])) (Nat.le_of_ble_eq_true rfl) H (fun x10 M10 h10 D10 H => ?_)
          refine ev_if (pc1 := 111) (t := 115) (TBof tbs_51 _ rfl) (by decide) rfl (fun c11 => ?_) (fun c11 => ?_)
          · replace H := H.1 c11
            refine ev_iconst (pc1 := 116) (x := 0) (by decide) (TBof tbs_51 _ rfl) rfl ?_
            refine ev_callsI (pc1 := 119) (as := [.int 0]) (r := []) (TBof tbs_51 _ rfl) rfl (lnkof mo_51 ln_3_191) (Or.inl rfl) rfl na_59 (Nat.le_of_ble_eq_true rfl) H (fun x12 M12 h12 D12 H => ?_)
            exact ev_ireturn (TBof tbs_51 _ rfl) (retI_i rt_51) ⟨_, rfl, H⟩
          · replace H := H.2 c11
            refine ev_iconst (pc1 := 112) (x := 1) (by decide) (TBof tbs_51 _ rfl) rfl ?_
            refine ev_goto (pc1 := 116) (TBof tbs_51 _ rfl) (by decide) ?_
            refine ev_callsI (pc1 := 119) (as := [.int 1]) (r := []) (TBof tbs_51 _ rfl) rfl (lnkof mo_51 ln_3_191) (Or.inl rfl) rfl na_59 (Nat.le_of_ble_eq_true rfl) H (fun x13 M13 h13 D13 H => ?_)
            exact ev_ireturn (TBof tbs_51 _ rfl) (retI_i rt_51) ⟨_, rfl, H⟩
  · replace H := H.2 c2
    refine ev_iconst (pc1 := 8) (x := (-1)) (by decide) (TBof tbs_51 _ rfl) rfl ?_
    exact ev_ireturn (TBof tbs_51 _ rfl) (retI_i rt_51) ⟨_, rfl, H⟩
set_option maxRecDepth 100000 in
theorem R_X3_needs_0 {d : Nat} {v1 v2 : Int32} {M : Im} {h : Hm} {D : Dm} {Q : Int32 → Im → Hm → Dm → Prop} (H : CI d nX2_isThere [.ref 1, .int v1] M h D (fun x1 M1 h1 D1 => ((¬ (x1 = 0)) → (((v2 < 0) → (Q (-2) M1 h1 D1)) ∧ (¬ (v2 < 0) → (((v2 ≤ 4) → (CI d nX3_canComeTo [.ref 0, .int v1] M1 h1 D1 (fun x5 M5 h5 D5 => ((¬ (x5 = 0)) → (CV d nX1_make [.ref 29, .ref 1, .int v1] M5 h5 D5 (fun M7 h7 D7 => ((v2.toInt < 0 ∨ 3 < v2.toInt) → (CI d nX2_countWholeSeals [.ref 1, .int (M7 29 0)] M7 h7 D7 (fun x8 M8 h8 D8 => Q x8 M8 h8 D8))) ∧ ((v2 = 0) → (CI d nX1_countSteps [.ref 29, .ref 1] M7 h7 D7 (fun x10 M10 h10 D10 => Q x10 M10 h10 D10))) ∧ ((v2 = 1) → (Q (M7 29 0) M7 h7 D7)) ∧ ((v2 = 2) → (Q (M7 29 1) M7 h7 D7)) ∧ ((v2 = 3) → (CI d nX1_countLiftings [.ref 29, .ref 1] M7 h7 D7 (fun x11 M11 h11 D11 => Q x11 M11 h11 D11)))))) ∧ (¬ (¬ (x5 = 0)) → (Q (-4) M5 h5 D5))))) ∧ (¬ (v2 ≤ 4) → (Q (-2) M1 h1 D1)))))) ∧ (¬ (¬ (x1 = 0)) → (Q (-1) M1 h1 D1)))) : EvI d nX3_needs 0 [(0, .ref 0), (1, .int v1), (2, .int v2)] [] M h D Q := by
  refine ev_aload_n (pc1 := 1) rfl rfl (TBof tbs_52 _ rfl) rfl ?_
  refine ev_getP (pc1 := 4) (ci := 3) (k := 0) (a := 1) (TBof tbs_52 _ rfl) rfl (fldof mo_52 fl_3_12) ltc_0 sh_0 nk_3_0 fp_3_0 (by decide) pf_0_0 ?_
  refine ev_iload_n (pc1 := 5) rfl (TBof tbs_52 _ rfl) rfl ?_
  refine ev_callvI (pc1 := 8) (as := [.int v1]) (r := []) (TBof tbs_52 _ rfl) rfl (lnkof mo_52 ln_3_48) rfl na_18 ltc_1 (sh_1.trans (by rw [mo_18])) (Nat.le_of_ble_eq_true rfl) H (fun x1 M1 h1 D1 H => ?_)
  refine ev_if (pc1 := 11) (t := 13) (TBof tbs_52 _ rfl) (by decide) rfl (fun c2 => ?_) (fun c2 => ?_)
  · replace H := H.1 c2
    refine ev_iload_n (pc1 := 14) rfl (TBof tbs_52 _ rfl) rfl ?_
    refine ev_if (pc1 := 17) (t := 22) (TBof tbs_52 _ rfl) (by decide) rfl (fun c3 => ?_) (fun c3 => ?_)
    · replace H := H.1 c3
      refine ev_bipush (pc1 := 24) (x := (-2)) (by decide) (TBof tbs_52 _ rfl) rfl ?_
      exact ev_ireturn (TBof tbs_52 _ rfl) (retI_i rt_52) ⟨_, rfl, H⟩
    · replace H := H.2 c3
      refine ev_iload_n (pc1 := 18) rfl (TBof tbs_52 _ rfl) rfl ?_
      refine ev_iconst (pc1 := 19) (x := 4) (by decide) (TBof tbs_52 _ rfl) rfl ?_
      refine ev_icmp (pc1 := 22) (t := 25) (TBof tbs_52 _ rfl) (by decide) rfl (fun c4 => ?_) (fun c4 => ?_)
      · replace H := H.1 c4
        refine ev_aload_n (pc1 := 26) rfl rfl (TBof tbs_52 _ rfl) rfl ?_
        refine ev_iload_n (pc1 := 27) rfl (TBof tbs_52 _ rfl) rfl ?_
        refine ev_callvI (pc1 := 30) (as := [.int v1]) (r := []) (TBof tbs_52 _ rfl) rfl (lnkof mo_52 ln_3_201) rfl na_66 ltc_0 (sh_0.trans (by rw [mo_66])) (Nat.le_of_ble_eq_true rfl) H (fun x5 M5 h5 D5 H => ?_)
        refine ev_if (pc1 := 33) (t := 36) (TBof tbs_52 _ rfl) (by decide) rfl (fun c6 => ?_) (fun c6 => ?_)
        · replace H := H.1 c6
          refine ev_aload_n (pc1 := 37) rfl rfl (TBof tbs_52 _ rfl) rfl ?_
          refine ev_getP (pc1 := 40) (ci := 3) (k := 4) (a := 29) (TBof tbs_52 _ rfl) rfl (fldof mo_52 fl_3_29) ltc_0 sh_0 nk_3_4 fp_3_4 (by decide) pf_0_4 ?_
          refine ev_aload_n (pc1 := 41) rfl rfl (TBof tbs_52 _ rfl) rfl ?_
          refine ev_getP (pc1 := 44) (ci := 3) (k := 0) (a := 1) (TBof tbs_52 _ rfl) rfl (fldof mo_52 fl_3_12) ltc_0 sh_0 nk_3_0 fp_3_0 (by decide) pf_0_0 ?_
          refine ev_iload_n (pc1 := 45) rfl (TBof tbs_52 _ rfl) rfl ?_
          refine ev_callvV (pc1 := 48) (as := [.ref 1, .int v1]) (r := []) (TBof tbs_52 _ rfl) rfl (lnkof mo_52 ln_3_204) rfl na_2 ltc_29 (sh_29.trans (by rw [mo_2])) (Nat.le_of_ble_eq_true rfl) H (fun M7 h7 D7 H => ?_)
          refine ev_iload_n (pc1 := 49) rfl (TBof tbs_52 _ rfl) rfl ?_
          refine ev_table (TBof tbs_52 _ rfl) (fun c9 => ⟨120, by decide, ?_⟩) (fun c9 => ?_)
          · replace H := H.1 c9
            refine ev_aload_n (pc1 := 121) rfl rfl (TBof tbs_52 _ rfl) rfl ?_
            refine ev_getP (pc1 := 124) (ci := 3) (k := 0) (a := 1) (TBof tbs_52 _ rfl) rfl (fldof mo_52 fl_3_12) ltc_0 sh_0 nk_3_0 fp_3_0 (by decide) pf_0_0 ?_
            refine ev_aload_n (pc1 := 125) rfl rfl (TBof tbs_52 _ rfl) rfl ?_
            refine ev_getP (pc1 := 128) (ci := 3) (k := 4) (a := 29) (TBof tbs_52 _ rfl) rfl (fldof mo_52 fl_3_29) ltc_0 sh_0 nk_3_4 fp_3_4 (by decide) pf_0_4 ?_
            refine ev_getI (pc1 := 131) (ci := 1) (k := 0) (TBof tbs_52 _ rfl) rfl (fldof mo_52 fl_3_212) ltc_29 sh_29 nk_1_0 fi_1_0 ?_
            refine ev_callvI (pc1 := 134) (as := [.int (M7 29 0)]) (r := []) (TBof tbs_52 _ rfl) rfl (lnkof mo_52 ln_3_221) rfl na_34 ltc_1 (sh_1.trans (by rw [mo_34])) (Nat.le_of_ble_eq_true rfl) H (fun x8 M8 h8 D8 H => ?_)
            exact ev_ireturn (TBof tbs_52 _ rfl) (retI_i rt_52) ⟨_, rfl, H⟩
          · have e9 : v2.toInt = 0 ∨ v2.toInt = 1 ∨ v2.toInt = 2 ∨ v2.toInt = 3 := by omega
            replace H := H.2
            rcases e9 with e9 | e9 | e9 | e9
            · refine ⟨31, 80, by rw [e9]; rfl, by decide, ?_⟩
              replace H := H.1 (Int32.toInt_inj.mp (by rw [e9]; decide))
              refine ev_aload_n (pc1 := 81) rfl rfl (TBof tbs_52 _ rfl) rfl ?_
              refine ev_getP (pc1 := 84) (ci := 3) (k := 4) (a := 29) (TBof tbs_52 _ rfl) rfl (fldof mo_52 fl_3_29) ltc_0 sh_0 nk_3_4 fp_3_4 (by decide) pf_0_4 ?_
              refine ev_aload_n (pc1 := 85) rfl rfl (TBof tbs_52 _ rfl) rfl ?_
              refine ev_getP (pc1 := 88) (ci := 3) (k := 0) (a := 1) (TBof tbs_52 _ rfl) rfl (fldof mo_52 fl_3_12) ltc_0 sh_0 nk_3_0 fp_3_0 (by decide) pf_0_0 ?_
              refine ev_callvI (pc1 := 91) (as := [.ref 1]) (r := []) (TBof tbs_52 _ rfl) rfl (lnkof mo_52 ln_3_208) rfl na_3 ltc_29 (sh_29.trans (by rw [mo_3])) (Nat.le_of_ble_eq_true rfl) H (fun x10 M10 h10 D10 H => ?_)
              exact ev_ireturn (TBof tbs_52 _ rfl) (retI_i rt_52) ⟨_, rfl, H⟩
            · refine ⟨43, 92, by rw [e9]; rfl, by decide, ?_⟩
              replace H := H.2.1 (Int32.toInt_inj.mp (by rw [e9]; decide))
              refine ev_aload_n (pc1 := 93) rfl rfl (TBof tbs_52 _ rfl) rfl ?_
              refine ev_getP (pc1 := 96) (ci := 3) (k := 4) (a := 29) (TBof tbs_52 _ rfl) rfl (fldof mo_52 fl_3_29) ltc_0 sh_0 nk_3_4 fp_3_4 (by decide) pf_0_4 ?_
              refine ev_getI (pc1 := 99) (ci := 1) (k := 0) (TBof tbs_52 _ rfl) rfl (fldof mo_52 fl_3_212) ltc_29 sh_29 nk_1_0 fi_1_0 ?_
              exact ev_ireturn (TBof tbs_52 _ rfl) (retI_i rt_52) ⟨_, rfl, H⟩
            · refine ⟨51, 100, by rw [e9]; rfl, by decide, ?_⟩
              replace H := H.2.2.1 (Int32.toInt_inj.mp (by rw [e9]; decide))
              refine ev_aload_n (pc1 := 101) rfl rfl (TBof tbs_52 _ rfl) rfl ?_
              refine ev_getP (pc1 := 104) (ci := 3) (k := 4) (a := 29) (TBof tbs_52 _ rfl) rfl (fldof mo_52 fl_3_29) ltc_0 sh_0 nk_3_4 fp_3_4 (by decide) pf_0_4 ?_
              refine ev_getI (pc1 := 107) (ci := 1) (k := 1) (TBof tbs_52 _ rfl) rfl (fldof mo_52 fl_3_215) ltc_29 sh_29 nk_1_1 fi_1_1 ?_
              exact ev_ireturn (TBof tbs_52 _ rfl) (retI_i rt_52) ⟨_, rfl, H⟩
            · refine ⟨59, 108, by rw [e9]; rfl, by decide, ?_⟩
              replace H := H.2.2.2 (Int32.toInt_inj.mp (by rw [e9]; decide))
              refine ev_aload_n (pc1 := 109) rfl rfl (TBof tbs_52 _ rfl) rfl ?_
              refine ev_getP (pc1 := 112) (ci := 3) (k := 4) (a := 29) (TBof tbs_52 _ rfl) rfl (fldof mo_52 fl_3_29) ltc_0 sh_0 nk_3_4 fp_3_4 (by decide) pf_0_4 ?_
              refine ev_aload_n (pc1 := 113) rfl rfl (TBof tbs_52 _ rfl) rfl ?_
              refine ev_getP (pc1 := 116) (ci := 3) (k := 0) (a := 1) (TBof tbs_52 _ rfl) rfl (fldof mo_52 fl_3_12) ltc_0 sh_0 nk_3_0 fp_3_0 (by decide) pf_0_0 ?_
              refine ev_callvI (pc1 := 119) (as := [.ref 1]) (r := []) (TBof tbs_52 _ rfl) rfl (lnkof mo_52 ln_3_218) rfl na_4 ltc_29 (sh_29.trans (by rw [mo_4])) (Nat.le_of_ble_eq_true rfl) H (fun x11 M11 h11 D11 H => ?_)
              exact ev_ireturn (TBof tbs_52 _ rfl) (retI_i rt_52) ⟨_, rfl, H⟩
        · replace H := H.2 c6
          refine ev_bipush (pc1 := 35) (x := (-4)) (by decide) (TBof tbs_52 _ rfl) rfl ?_
          exact ev_ireturn (TBof tbs_52 _ rfl) (retI_i rt_52) ⟨_, rfl, H⟩
      · replace H := H.2 c4
        refine ev_bipush (pc1 := 24) (x := (-2)) (by decide) (TBof tbs_52 _ rfl) rfl ?_
        exact ev_ireturn (TBof tbs_52 _ rfl) (retI_i rt_52) ⟨_, rfl, H⟩
  · replace H := H.2 c2
    refine ev_iconst (pc1 := 12) (x := (-1)) (by decide) (TBof tbs_52 _ rfl) rfl ?_
    exact ev_ireturn (TBof tbs_52 _ rfl) (retI_i rt_52) ⟨_, rfl, H⟩
set_option maxRecDepth 100000 in
theorem R_X3_hint_0 {d : Nat} {v1 : Int32} {M : Im} {h : Hm} {D : Dm} {Q : Int32 → Im → Hm → Dm → Prop} (H : CI d nX2_isThere [.ref 1, .int v1] M h D (fun x1 M1 h1 D1 => ((¬ (x1 = 0)) → ((((M1 1 1) = 0) → (Q (-4) M1 h1 D1)) ∧ (¬ ((M1 1 1) = 0) → (CI d nX3_canComeTo [.ref 0, .int v1] M1 h1 D1 (fun x4 M4 h4 D4 => ((¬ (x4 = 0)) → (CV d nX1_make [.ref 29, .ref 1, .int v1] M4 h4 D4 (fun M6 h6 D6 => CI d nX1_firstStep [.ref 29, .ref 1] M6 h6 D6 (fun x7 M7 h7 D7 => Q x7 M7 h7 D7)))) ∧ (¬ (¬ (x4 = 0)) → (Q (-4) M4 h4 D4))))))) ∧ (¬ (¬ (x1 = 0)) → (Q (-1) M1 h1 D1)))) : EvI d nX3_hint 0 [(0, .ref 0), (1, .int v1)] [] M h D Q := by
  refine ev_aload_n (pc1 := 1) rfl rfl (TBof tbs_53 _ rfl) rfl ?_
  refine ev_getP (pc1 := 4) (ci := 3) (k := 0) (a := 1) (TBof tbs_53 _ rfl) rfl (fldof mo_53 fl_3_12) ltc_0 sh_0 nk_3_0 fp_3_0 (by decide) pf_0_0 ?_
  refine ev_iload_n (pc1 := 5) rfl (TBof tbs_53 _ rfl) rfl ?_
  refine ev_callvI (pc1 := 8) (as := [.int v1]) (r := []) (TBof tbs_53 _ rfl) rfl (lnkof mo_53 ln_3_48) rfl na_18 ltc_1 (sh_1.trans (by rw [mo_18])) (Nat.le_of_ble_eq_true rfl) H (fun x1 M1 h1 D1 H => ?_)
  refine ev_if (pc1 := 11) (t := 13) (TBof tbs_53 _ rfl) (by decide) rfl (fun c2 => ?_) (fun c2 => ?_)
  · replace H := H.1 c2
    refine ev_aload_n (pc1 := 14) rfl rfl (TBof tbs_53 _ rfl) rfl ?_
    refine ev_getP (pc1 := 17) (ci := 3) (k := 0) (a := 1) (TBof tbs_53 _ rfl) rfl (fldof mo_53 fl_3_12) ltc_0 sh_0 nk_3_0 fp_3_0 (by decide) pf_0_0 ?_
    refine ev_getI (pc1 := 20) (ci := 2) (k := 1) (TBof tbs_53 _ rfl) rfl (fldof mo_53 fl_3_59) ltc_1 sh_1 nk_2_1 fi_2_1 ?_
    refine ev_if (pc1 := 23) (t := 31) (TBof tbs_53 _ rfl) (by decide) rfl (fun c3 => ?_) (fun c3 => ?_)
    · replace H := H.1 c3
      refine ev_bipush (pc1 := 33) (x := (-4)) (by decide) (TBof tbs_53 _ rfl) rfl ?_
      exact ev_ireturn (TBof tbs_53 _ rfl) (retI_i rt_53) ⟨_, rfl, H⟩
    · replace H := H.2 c3
      refine ev_aload_n (pc1 := 24) rfl rfl (TBof tbs_53 _ rfl) rfl ?_
      refine ev_iload_n (pc1 := 25) rfl (TBof tbs_53 _ rfl) rfl ?_
      refine ev_callvI (pc1 := 28) (as := [.int v1]) (r := []) (TBof tbs_53 _ rfl) rfl (lnkof mo_53 ln_3_201) rfl na_66 ltc_0 (sh_0.trans (by rw [mo_66])) (Nat.le_of_ble_eq_true rfl) H (fun x4 M4 h4 D4 H => ?_)
      refine ev_if (pc1 := 31) (t := 34) (TBof tbs_53 _ rfl) (by decide) rfl (fun c5 => ?_) (fun c5 => ?_)
      · replace H := H.1 c5
        refine ev_aload_n (pc1 := 35) rfl rfl (TBof tbs_53 _ rfl) rfl ?_
        refine ev_getP (pc1 := 38) (ci := 3) (k := 4) (a := 29) (TBof tbs_53 _ rfl) rfl (fldof mo_53 fl_3_29) ltc_0 sh_0 nk_3_4 fp_3_4 (by decide) pf_0_4 ?_
        refine ev_aload_n (pc1 := 39) rfl rfl (TBof tbs_53 _ rfl) rfl ?_
        refine ev_getP (pc1 := 42) (ci := 3) (k := 0) (a := 1) (TBof tbs_53 _ rfl) rfl (fldof mo_53 fl_3_12) ltc_0 sh_0 nk_3_0 fp_3_0 (by decide) pf_0_0 ?_
        refine ev_iload_n (pc1 := 43) rfl (TBof tbs_53 _ rfl) rfl ?_
        refine ev_callvV (pc1 := 46) (as := [.ref 1, .int v1]) (r := []) (TBof tbs_53 _ rfl) rfl (lnkof mo_53 ln_3_204) rfl na_2 ltc_29 (sh_29.trans (by rw [mo_2])) (Nat.le_of_ble_eq_true rfl) H (fun M6 h6 D6 H => ?_)
        refine ev_aload_n (pc1 := 47) rfl rfl (TBof tbs_53 _ rfl) rfl ?_
        refine ev_getP (pc1 := 50) (ci := 3) (k := 4) (a := 29) (TBof tbs_53 _ rfl) rfl (fldof mo_53 fl_3_29) ltc_0 sh_0 nk_3_4 fp_3_4 (by decide) pf_0_4 ?_
        refine ev_aload_n (pc1 := 51) rfl rfl (TBof tbs_53 _ rfl) rfl ?_
        refine ev_getP (pc1 := 54) (ci := 3) (k := 0) (a := 1) (TBof tbs_53 _ rfl) rfl (fldof mo_53 fl_3_12) ltc_0 sh_0 nk_3_0 fp_3_0 (by decide) pf_0_0 ?_
        refine ev_callvI (pc1 := 57) (as := [.ref 1]) (r := []) (TBof tbs_53 _ rfl) rfl (lnkof mo_53 ln_3_224) rfl na_5 ltc_29 (sh_29.trans (by rw [mo_5])) (Nat.le_of_ble_eq_true rfl) H (fun x7 M7 h7 D7 H => ?_)
        exact ev_ireturn (TBof tbs_53 _ rfl) (retI_i rt_53) ⟨_, rfl, H⟩
      · replace H := H.2 c5
        refine ev_bipush (pc1 := 33) (x := (-4)) (by decide) (TBof tbs_53 _ rfl) rfl ?_
        exact ev_ireturn (TBof tbs_53 _ rfl) (retI_i rt_53) ⟨_, rfl, H⟩
  · replace H := H.2 c2
    refine ev_iconst (pc1 := 12) (x := (-1)) (by decide) (TBof tbs_53 _ rfl) rfl ?_
    exact ev_ireturn (TBof tbs_53 _ rfl) (retI_i rt_53) ⟨_, rfl, H⟩
set_option maxRecDepth 100000 in
theorem R_X3_minutes_0 {d : Nat} {M : Im} {h : Hm} {D : Dm} {Q : UInt64 → Im → Hm → Dm → Prop} (H : (((M 1 1) = 0) → (Q 13830554455654793216 M h D)) ∧ (¬ ((M 1 1) = 0) → (vf_n64 (FP.ddiv (FP.i2d (M 1 3)) 4616189618054758400) ∧ (Q (FP.ddiv (FP.i2d (M 1 3)) 4616189618054758400) M h D)))) : EvD d nX3_minutes 0 [(0, .ref 0)] [] M h D Q := by
  refine ev_aload_n (pc1 := 1) rfl rfl (TBof tbs_54 _ rfl) rfl ?_
  refine ev_getP (pc1 := 4) (ci := 3) (k := 0) (a := 1) (TBof tbs_54 _ rfl) rfl (fldof mo_54 fl_3_12) ltc_0 sh_0 nk_3_0 fp_3_0 (by decide) pf_0_0 ?_
  refine ev_getI (pc1 := 7) (ci := 2) (k := 1) (TBof tbs_54 _ rfl) rfl (fldof mo_54 fl_3_59) ltc_1 sh_1 nk_2_1 fi_2_1 ?_
  refine ev_if (pc1 := 10) (t := 25) (TBof tbs_54 _ rfl) (by decide) rfl (fun c1 => ?_) (fun c1 => ?_)
  · replace H := H.1 c1
    refine ev_ldc2_w (pc1 := 28) (x := 13830554455654793216) rfl (TBof tbs_54 _ rfl) rfl ?_
    exact ev_dreturn (TBof tbs_54 _ rfl) rt_54 ⟨_, rfl, H⟩
  · replace H := H.2 c1
    refine ev_aload_n (pc1 := 11) rfl rfl (TBof tbs_54 _ rfl) rfl ?_
    refine ev_getP (pc1 := 14) (ci := 3) (k := 0) (a := 1) (TBof tbs_54 _ rfl) rfl (fldof mo_54 fl_3_12) ltc_0 sh_0 nk_3_0 fp_3_0 (by decide) pf_0_0 ?_
    refine ev_getI (pc1 := 17) (ci := 2) (k := 3) (TBof tbs_54 _ rfl) rfl (fldof mo_54 fl_3_227) ltc_1 sh_1 nk_2_3 fi_2_3 ?_
    refine ev_i2d (pc1 := 18) (TBof tbs_54 _ rfl) rfl ?_
    refine ev_ldc2_w (pc1 := 21) (x := 4616189618054758400) rfl (TBof tbs_54 _ rfl) rfl ?_
    refine ev_ddiv (pc1 := 22) H.1 (TBof tbs_54 _ rfl) rfl ?_
    replace H := H.2
    refine ev_goto (pc1 := 28) (TBof tbs_54 _ rfl) (by decide) ?_
    exact ev_dreturn (TBof tbs_54 _ rfl) rt_54 ⟨_, rfl, H⟩
set_option maxRecDepth 100000 in
theorem R_X3_minutesBits_0 {d : Nat} {M : Im} {h : Hm} {D : Dm} {Q : Int32 → Im → Hm → Dm → Prop} (H : (((M 1 1) = 0) → (Q 0 M h D)) ∧ (¬ ((M 1 1) = 0) → (CD d nX3_minutes [.ref 0] M h D (fun x2 M2 h2 D2 => vf_n32 (FP.d2f x2) ∧ (CI d nX3_bitsOf [.float (FP.d2f x2)] M2 h2 D2 (fun x3 M3 h3 D3 => Q x3 M3 h3 D3)))))) : EvI d nX3_minutesBits 0 [(0, .ref 0)] [] M h D Q := by
  refine ev_aload_n (pc1 := 1) rfl rfl (TBof tbs_55 _ rfl) rfl ?_
  refine ev_getP (pc1 := 4) (ci := 3) (k := 0) (a := 1) (TBof tbs_55 _ rfl) rfl (fldof mo_55 fl_3_12) ltc_0 sh_0 nk_3_0 fp_3_0 (by decide) pf_0_0 ?_
  refine ev_getI (pc1 := 7) (ci := 2) (k := 1) (TBof tbs_55 _ rfl) rfl (fldof mo_55 fl_3_59) ltc_1 sh_1 nk_2_1 fi_2_1 ?_
  refine ev_if (pc1 := 10) (t := 21) (TBof tbs_55 _ rfl) (by decide) rfl (fun c1 => ?_) (fun c1 => ?_)
  · replace H := H.1 c1
    refine ev_iconst (pc1 := 22) (x := 0) (by decide) (TBof tbs_55 _ rfl) rfl ?_
    exact ev_ireturn (TBof tbs_55 _ rfl) (retI_i rt_55) ⟨_, rfl, H⟩
  · replace H := H.2 c1
    refine ev_aload_n (pc1 := 11) rfl rfl (TBof tbs_55 _ rfl) rfl ?_
    refine ev_callvD (pc1 := 14) (as := []) (r := []) (TBof tbs_55 _ rfl) rfl (lnkof mo_55 ln_3_234) rfl na_54 ltc_0 (sh_0.trans (by rw [mo_54])) (Nat.le_of_ble_eq_true rfl) H (fun x2 M2 h2 D2 H => ?_)
    refine ev_d2f (pc1 := 15) H.1 (TBof tbs_55 _ rfl) rfl ?_
    replace H := H.2
    refine ev_callsI (pc1 := 18) (as := [.float (FP.d2f x2)]) (r := []) (TBof tbs_55 _ rfl) rfl (lnkof mo_55 ln_3_238) (Or.inl rfl) rfl na_62 (Nat.le_of_ble_eq_true rfl) H (fun x3 M3 h3 D3 H => ?_)
    refine ev_goto (pc1 := 22) (TBof tbs_55 _ rfl) (by decide) ?_
    exact ev_ireturn (TBof tbs_55 _ rfl) (retI_i rt_55) ⟨_, rfl, H⟩
set_option maxRecDepth 100000 in
theorem R_X3_count_0 {d : Nat} {v1 : Int32} {M : Im} {h : Hm} {D : Dm} {Q : Int32 → Im → Hm → Dm → Prop} (H : ((v1.toInt < 0 ∨ 10 < v1.toInt) → (Q (-2) M h D)) ∧ ((v1 = 0) → (Q (M 1 0) M h D)) ∧ ((v1 = 1) → (CI d nX3_oneIf [.int (M 1 1)] M h D (fun x2 M2 h2 D2 => Q x2 M2 h2 D2))) ∧ ((v1 = 2) → (CI d nJ6_bitCount_0f7a4 [.int (M 1 4)] M h D (fun x3 M3 h3 D3 => Q x3 M3 h3 D3))) ∧ ((v1 = 3) → (Q (M 1 6) M h D)) ∧ ((v1 = 4) → (CI d nJ6_bitCount_0f7a4 [.int (M 1 5)] M h D (fun x4 M4 h4 D4 => Q x4 M4 h4 D4))) ∧ ((v1 = 5) → (Q (M 1 2) M h D)) ∧ ((v1 = 6) → (CI d nX3_neverOpened [.ref 0] M h D (fun x5 M5 h5 D5 => ((¬ (x5 = 0)) → (CI d nX3_oneIf [.int 0] M5 h5 D5 (fun x7 M7 h7 D7 => Q x7 M7 h7 D7))) ∧ (¬ (¬ (x5 = 0)) → (CI d nX3_oneIf [.int 1] M5 h5 D5 (fun x8 M8 h8 D8 => Q x8 M8 h8 D8)))))) ∧ ((v1 = 7) → (CI d nX3_neverOpened [.ref 0] M h D (fun x9 M9 h9 D9 => Q x9 M9 h9 D9))) ∧ ((v1 = 8) → ((((M 1 1) = 0) → (Q 0 M h D)) ∧ (¬ ((M 1 1) = 0) → (CI d nX2_openableNow [.ref 1] M h D (fun x11 M11 h11 D11 => Q x11 M11 h11 D11))))) ∧ ((v1 = 9) → (Q (M 0 6) M h D)) ∧ ((v1 = 10) → (Q (M 31 1) M h D))) : EvI d nX3_count 0 [(0, .ref 0), (1, .int v1)] [] M h D Q := by
  refine ev_iload_n (pc1 := 1) rfl (TBof tbs_56 _ rfl) rfl ?_
  refine ev_table (TBof tbs_56 _ rfl) (fun c1 => ⟨173, by decide, ?_⟩) (fun c1 => ?_)
  · replace H := H.1 c1
    refine ev_bipush (pc1 := 175) (x := (-2)) (by decide) (TBof tbs_56 _ rfl) rfl ?_
    exact ev_ireturn (TBof tbs_56 _ rfl) (retI_i rt_56) ⟨_, rfl, H⟩
  · have e1 : v1.toInt = 0 ∨ v1.toInt = 1 ∨ v1.toInt = 2 ∨ v1.toInt = 3 ∨ v1.toInt = 4 ∨ v1.toInt = 5 ∨ v1.toInt = 6 ∨ v1.toInt = 7 ∨ v1.toInt = 8 ∨ v1.toInt = 9 ∨ v1.toInt = 10 := by omega
    replace H := H.2
    rcases e1 with e1 | e1 | e1 | e1 | e1 | e1 | e1 | e1 | e1 | e1 | e1
    · refine ⟨59, 60, by rw [e1]; rfl, by decide, ?_⟩
      replace H := H.1 (Int32.toInt_inj.mp (by rw [e1]; decide))
      refine ev_aload_n (pc1 := 61) rfl rfl (TBof tbs_56 _ rfl) rfl ?_
      refine ev_getP (pc1 := 64) (ci := 3) (k := 0) (a := 1) (TBof tbs_56 _ rfl) rfl (fldof mo_56 fl_3_12) ltc_0 sh_0 nk_3_0 fp_3_0 (by decide) pf_0_0 ?_
      refine ev_getI (pc1 := 67) (ci := 2) (k := 0) (TBof tbs_56 _ rfl) rfl (fldof mo_56 fl_3_56) ltc_1 sh_1 nk_2_0 fi_2_0 ?_
      exact ev_ireturn (TBof tbs_56 _ rfl) (retI_i rt_56) ⟨_, rfl, H⟩
    · refine ⟨67, 68, by rw [e1]; rfl, by decide, ?_⟩
      replace H := H.2.1 (Int32.toInt_inj.mp (by rw [e1]; decide))
      refine ev_aload_n (pc1 := 69) rfl rfl (TBof tbs_56 _ rfl) rfl ?_
      refine ev_getP (pc1 := 72) (ci := 3) (k := 0) (a := 1) (TBof tbs_56 _ rfl) rfl (fldof mo_56 fl_3_12) ltc_0 sh_0 nk_3_0 fp_3_0 (by decide) pf_0_0 ?_
      refine ev_getI (pc1 := 75) (ci := 2) (k := 1) (TBof tbs_56 _ rfl) rfl (fldof mo_56 fl_3_59) ltc_1 sh_1 nk_2_1 fi_2_1 ?_
      refine ev_callsI (pc1 := 78) (as := [.int (M 1 1)]) (r := []) (TBof tbs_56 _ rfl) rfl (lnkof mo_56 ln_3_191) (Or.inl rfl) rfl na_59 (Nat.le_of_ble_eq_true rfl) H (fun x2 M2 h2 D2 H => ?_)
      exact ev_ireturn (TBof tbs_56 _ rfl) (retI_i rt_56) ⟨_, rfl, H⟩
    · refine ⟨78, 79, by rw [e1]; rfl, by decide, ?_⟩
      replace H := H.2.2.1 (Int32.toInt_inj.mp (by rw [e1]; decide))
      refine ev_aload_n (pc1 := 80) rfl rfl (TBof tbs_56 _ rfl) rfl ?_
      refine ev_getP (pc1 := 83) (ci := 3) (k := 0) (a := 1) (TBof tbs_56 _ rfl) rfl (fldof mo_56 fl_3_12) ltc_0 sh_0 nk_3_0 fp_3_0 (by decide) pf_0_0 ?_
      refine ev_getI (pc1 := 86) (ci := 2) (k := 4) (TBof tbs_56 _ rfl) rfl (fldof mo_56 fl_3_135) ltc_1 sh_1 nk_2_4 fi_2_4 ?_
      refine ev_callsI (pc1 := 89) (as := [.int (M 1 4)]) (r := []) (TBof tbs_56 _ rfl) rfl (lnkof mo_56 ln_3_138) (Or.inl rfl) rfl na_68 (Nat.le_of_ble_eq_true rfl) H (fun x3 M3 h3 D3 H => ?_)
      exact ev_ireturn (TBof tbs_56 _ rfl) (retI_i rt_56) ⟨_, rfl, H⟩
    · refine ⟨89, 90, by rw [e1]; rfl, by decide, ?_⟩
      replace H := H.2.2.2.1 (Int32.toInt_inj.mp (by rw [e1]; decide))
      refine ev_aload_n (pc1 := 91) rfl rfl (TBof tbs_56 _ rfl) rfl ?_
      refine ev_getP (pc1 := 94) (ci := 3) (k := 0) (a := 1) (TBof tbs_56 _ rfl) rfl (fldof mo_56 fl_3_12) ltc_0 sh_0 nk_3_0 fp_3_0 (by decide) pf_0_0 ?_
      refine ev_getI (pc1 := 97) (ci := 2) (k := 6) (TBof tbs_56 _ rfl) rfl (fldof mo_56 fl_3_165) ltc_1 sh_1 nk_2_6 fi_2_6 ?_
      exact ev_ireturn (TBof tbs_56 _ rfl) (retI_i rt_56) ⟨_, rfl, H⟩
    · refine ⟨97, 98, by rw [e1]; rfl, by decide, ?_⟩
      replace H := H.2.2.2.2.1 (Int32.toInt_inj.mp (by rw [e1]; decide))
      refine ev_aload_n (pc1 := 99) rfl rfl (TBof tbs_56 _ rfl) rfl ?_
      refine ev_getP (pc1 := 102) (ci := 3) (k := 0) (a := 1) (TBof tbs_56 _ rfl) rfl (fldof mo_56 fl_3_12) ltc_0 sh_0 nk_3_0 fp_3_0 (by decide) pf_0_0 ?_
      refine ev_getI (pc1 := 105) (ci := 2) (k := 5) (TBof tbs_56 _ rfl) rfl (fldof mo_56 fl_3_168) ltc_1 sh_1 nk_2_5 fi_2_5 ?_
      refine ev_callsI (pc1 := 108) (as := [.int (M 1 5)]) (r := []) (TBof tbs_56 _ rfl) rfl (lnkof mo_56 ln_3_138) (Or.inl rfl) rfl na_68 (Nat.le_of_ble_eq_true rfl) H (fun x4 M4 h4 D4 H => ?_)
      exact ev_ireturn (TBof tbs_56 _ rfl) (retI_i rt_56) ⟨_, rfl, H⟩
    · refine ⟨108, 109, by rw [e1]; rfl, by decide, ?_⟩
      replace H := H.2.2.2.2.2.1 (Int32.toInt_inj.mp (by rw [e1]; decide))
      refine ev_aload_n (pc1 := 110) rfl rfl (TBof tbs_56 _ rfl) rfl ?_
      refine ev_getP (pc1 := 113) (ci := 3) (k := 0) (a := 1) (TBof tbs_56 _ rfl) rfl (fldof mo_56 fl_3_12) ltc_0 sh_0 nk_3_0 fp_3_0 (by decide) pf_0_0 ?_
      refine ev_getI (pc1 := 116) (ci := 2) (k := 2) (TBof tbs_56 _ rfl) rfl (fldof mo_56 fl_3_116) ltc_1 sh_1 nk_2_2 fi_2_2 ?_
      exact ev_ireturn (TBof tbs_56 _ rfl) (retI_i rt_56) ⟨_, rfl, H⟩
    · refine ⟨116, 117, by rw [e1]; rfl, by decide, ?_⟩
      replace H := H.2.2.2.2.2.2.1 (Int32.toInt_inj.mp (by rw [e1]; decide))
      refine ev_aload_n (pc1 := 118) rfl rfl (TBof tbs_56 _ rfl) rfl ?_
      refine ev_callvI (pc1 := 121) (as := []) (r := []) (TBof tbs_56 _ rfl) rfl (lnkof mo_56 ln_3_242) rfl na_67 ltc_0 (sh_0.trans (by rw [mo_67])) (Nat.le_of_ble_eq_true rfl) H (fun x5 M5 h5 D5 H => ?_)
      refine ev_if (pc1 := 124) (t := 128) (TBof tbs_56 _ rfl) (by decide) rfl (fun c6 => ?_) (fun c6 => ?_)
      · replace H := H.1 c6
        refine ev_iconst (pc1 := 129) (x := 0) (by decide) (TBof tbs_56 _ rfl) rfl ?_
        refine ev_callsI (pc1 := 132) (as := [.int 0]) (r := []) (TBof tbs_56 _ rfl) rfl (lnkof mo_56 ln_3_191) (Or.inl rfl) rfl na_59 (Nat.le_of_ble_eq_true rfl) H (fun x7 M7 h7 D7 H => ?_)
        exact ev_ireturn (TBof tbs_56 _ rfl) (retI_i rt_56) ⟨_, rfl, H⟩
      · replace H := H.2 c6
        refine ev_iconst (pc1 := 125) (x := 1) (by decide) (TBof tbs_56 _ rfl) rfl ?_
        refine ev_goto (pc1 := 129) (TBof tbs_56 _ rfl) (by decide) ?_
        refine ev_callsI (pc1 := 132) (as := [.int 1]) (r := []) (TBof tbs_56 _ rfl) rfl (lnkof mo_56 ln_3_191) (Or.inl rfl) rfl na_59 (Nat.le_of_ble_eq_true rfl) H (fun x8 M8 h8 D8 H => ?_)
        exact ev_ireturn (TBof tbs_56 _ rfl) (retI_i rt_56) ⟨_, rfl, H⟩
    · refine ⟨132, 133, by rw [e1]; rfl, by decide, ?_⟩
      replace H := H.2.2.2.2.2.2.2.1 (Int32.toInt_inj.mp (by rw [e1]; decide))
      refine ev_aload_n (pc1 := 134) rfl rfl (TBof tbs_56 _ rfl) rfl ?_
      refine ev_callvI (pc1 := 137) (as := []) (r := []) (TBof tbs_56 _ rfl) rfl (lnkof mo_56 ln_3_242) rfl na_67 ltc_0 (sh_0.trans (by rw [mo_67])) (Nat.le_of_ble_eq_true rfl) H (fun x9 M9 h9 D9 H => ?_)
      exact ev_ireturn (TBof tbs_56 _ rfl) (retI_i rt_56) ⟨_, rfl, H⟩
    · refine ⟨137, 138, by rw [e1]; rfl, by decide, ?_⟩
      replace H := H.2.2.2.2.2.2.2.2.1 (Int32.toInt_inj.mp (by rw [e1]; decide))
      refine ev_aload_n (pc1 := 139) rfl rfl (TBof tbs_56 _ rfl) rfl ?_
      refine ev_getP (pc1 := 142) (ci := 3) (k := 0) (a := 1) (TBof tbs_56 _ rfl) rfl (fldof mo_56 fl_3_12) ltc_0 sh_0 nk_3_0 fp_3_0 (by decide) pf_0_0 ?_
      refine ev_getI (pc1 := 145) (ci := 2) (k := 1) (TBof tbs_56 _ rfl) rfl (fldof mo_56 fl_3_59) ltc_1 sh_1 nk_2_1 fi_2_1 ?_
      refine ev_if (pc1 := 148) (t := 158) (TBof tbs_56 _ rfl) (by decide) rfl (fun c10 => ?_) (fun c10 => ?_)
      · replace H := H.1 c10
        refine ev_iconst (pc1 := 159) (x := 0) (by decide) (TBof tbs_56 _ rfl) rfl ?_
        exact ev_ireturn (TBof tbs_56 _ rfl) (retI_i rt_56) ⟨_, rfl, H⟩
      · replace H := H.2 c10
        refine ev_aload_n (pc1 := 149) rfl rfl (TBof tbs_56 _ rfl) rfl ?_
        refine ev_getP (pc1 := 152) (ci := 3) (k := 0) (a := 1) (TBof tbs_56 _ rfl) rfl (fldof mo_56 fl_3_12) ltc_0 sh_0 nk_3_0 fp_3_0 (by decide) pf_0_0 ?_
        refine ev_callvI (pc1 := 155) (as := []) (r := []) (TBof tbs_56 _ rfl) rfl (lnkof mo_56 ln_3_245) rfl na_33 ltc_1 (sh_1.trans (by rw [mo_33])) (Nat.le_of_ble_eq_true rfl) H (fun x11 M11 h11 D11 H => ?_)
        refine ev_goto (pc1 := 159) (TBof tbs_56 _ rfl) (by decide) ?_
        exact ev_ireturn (TBof tbs_56 _ rfl) (retI_i rt_56) ⟨_, rfl, H⟩
    · refine ⟨159, 160, by rw [e1]; rfl, by decide, ?_⟩
      replace H := H.2.2.2.2.2.2.2.2.2.1 (Int32.toInt_inj.mp (by rw [e1]; decide))
      refine ev_aload_n (pc1 := 161) rfl rfl (TBof tbs_56 _ rfl) rfl ?_
      refine ev_getI (pc1 := 164) (ci := 3) (k := 6) (TBof tbs_56 _ rfl) rfl (fldof mo_56 fl_3_40) ltc_0 sh_0 nk_3_6 fi_3_6 ?_
      exact ev_ireturn (TBof tbs_56 _ rfl) (retI_i rt_56) ⟨_, rfl, H⟩
    · refine ⟨164, 165, by rw [e1]; rfl, by decide, ?_⟩
      replace H := H.2.2.2.2.2.2.2.2.2.2 (Int32.toInt_inj.mp (by rw [e1]; decide))
      refine ev_aload_n (pc1 := 166) rfl rfl (TBof tbs_56 _ rfl) rfl ?_
      refine ev_getP (pc1 := 169) (ci := 3) (k := 5) (a := 31) (TBof tbs_56 _ rfl) rfl (fldof mo_56 fl_3_36) ltc_0 sh_0 nk_3_5 fp_3_5 (by decide) pf_0_5 ?_
      refine ev_getI (pc1 := 172) (ci := 0) (k := 1) (TBof tbs_56 _ rfl) rfl (fldof mo_56 fl_3_181) ltc_31 sh_31 nk_0_1 fi_0_1 ?_
      exact ev_ireturn (TBof tbs_56 _ rfl) (retI_i rt_56) ⟨_, rfl, H⟩
set_option maxRecDepth 100000 in
theorem R_X3_isHold_0 {d : Nat} {v0 v1 : Int32} {M : Im} {h : Hm} {D : Dm} {Q : Int32 → Im → Hm → Dm → Prop} (H : ((v0.toInt < 0 ∨ 3 < v0.toInt) → (Q 0 M h D)) ∧ ((v0 = 0) → (Q 1 M h D)) ∧ ((v0 = 1) → (((v1 < 0) → (Q 0 M h D)) ∧ (¬ (v1 < 0) → (((10 ≤ v1) → (Q 0 M h D)) ∧ (¬ (10 ≤ v1) → (Q 1 M h D)))))) ∧ ((v0 = 2) → (((v1 < 0) → (Q 0 M h D)) ∧ (¬ (v1 < 0) → (((16 ≤ v1) → (Q 0 M h D)) ∧ (¬ (16 ≤ v1) → (Q 1 M h D)))))) ∧ ((v0 = 3) → (Q 1 M h D))) : EvI d nX3_isHold 0 [(0, .int v0), (1, .int v1)] [] M h D Q := by
  refine ev_iload_n (pc1 := 1) rfl (TBof tbs_57 _ rfl) rfl ?_
  refine ev_table (TBof tbs_57 _ rfl) (fun c1 => ⟨66, by decide, ?_⟩) (fun c1 => ?_)
  · replace H := H.1 c1
    refine ev_iconst (pc1 := 67) (x := 0) (by decide) (TBof tbs_57 _ rfl) rfl ?_
    exact ev_ireturn (TBof tbs_57 _ rfl) (retI_z rt_57 (Or.inl rfl)) ⟨_, rfl, H⟩
  · have e1 : v0.toInt = 0 ∨ v0.toInt = 1 ∨ v0.toInt = 2 ∨ v0.toInt = 3 := by omega
    replace H := H.2
    rcases e1 with e1 | e1 | e1 | e1
    · refine ⟨31, 32, by rw [e1]; rfl, by decide, ?_⟩
      replace H := H.1 (Int32.toInt_inj.mp (by rw [e1]; decide))
      refine ev_iconst (pc1 := 33) (x := 1) (by decide) (TBof tbs_57 _ rfl) rfl ?_
      exact ev_ireturn (TBof tbs_57 _ rfl) (retI_z rt_57 (Or.inr rfl)) ⟨_, rfl, H⟩
    · refine ⟨33, 34, by rw [e1]; rfl, by decide, ?_⟩
      replace H := H.2.1 (Int32.toInt_inj.mp (by rw [e1]; decide))
      refine ev_iload_n (pc1 := 35) rfl (TBof tbs_57 _ rfl) rfl ?_
      refine ev_if (pc1 := 38) (t := 48) (TBof tbs_57 _ rfl) (by decide) rfl (fun c2 => ?_) (fun c2 => ?_)
      · replace H := H.1 c2
        refine ev_iconst (pc1 := 49) (x := 0) (by decide) (TBof tbs_57 _ rfl) rfl ?_
        exact ev_ireturn (TBof tbs_57 _ rfl) (retI_z rt_57 (Or.inl rfl)) ⟨_, rfl, H⟩
      · replace H := H.2 c2
        refine ev_iload_n (pc1 := 39) rfl (TBof tbs_57 _ rfl) rfl ?_
        refine ev_bipush (pc1 := 41) (x := 10) (by decide) (TBof tbs_57 _ rfl) rfl ?_
        refine ev_icmp (pc1 := 44) (t := 48) (TBof tbs_57 _ rfl) (by decide) rfl (fun c3 => ?_) (fun c3 => ?_)
        · replace H := H.1 c3
          refine ev_iconst (pc1 := 49) (x := 0) (by decide) (TBof tbs_57 _ rfl) rfl ?_
          exact ev_ireturn (TBof tbs_57 _ rfl) (retI_z rt_57 (Or.inl rfl)) ⟨_, rfl, H⟩
        · replace H := H.2 c3
          refine ev_iconst (pc1 := 45) (x := 1) (by decide) (TBof tbs_57 _ rfl) rfl ?_
          refine ev_goto (pc1 := 49) (TBof tbs_57 _ rfl) (by decide) ?_
          exact ev_ireturn (TBof tbs_57 _ rfl) (retI_z rt_57 (Or.inr rfl)) ⟨_, rfl, H⟩
    · refine ⟨49, 50, by rw [e1]; rfl, by decide, ?_⟩
      replace H := H.2.2.1 (Int32.toInt_inj.mp (by rw [e1]; decide))
      refine ev_iload_n (pc1 := 51) rfl (TBof tbs_57 _ rfl) rfl ?_
      refine ev_if (pc1 := 54) (t := 64) (TBof tbs_57 _ rfl) (by decide) rfl (fun c4 => ?_) (fun c4 => ?_)
      · replace H := H.1 c4
        refine ev_iconst (pc1 := 65) (x := 0) (by decide) (TBof tbs_57 _ rfl) rfl ?_
        exact ev_ireturn (TBof tbs_57 _ rfl) (retI_z rt_57 (Or.inl rfl)) ⟨_, rfl, H⟩
      · replace H := H.2 c4
        refine ev_iload_n (pc1 := 55) rfl (TBof tbs_57 _ rfl) rfl ?_
        refine ev_bipush (pc1 := 57) (x := 16) (by decide) (TBof tbs_57 _ rfl) rfl ?_
        refine ev_icmp (pc1 := 60) (t := 64) (TBof tbs_57 _ rfl) (by decide) rfl (fun c5 => ?_) (fun c5 => ?_)
        · replace H := H.1 c5
          refine ev_iconst (pc1 := 65) (x := 0) (by decide) (TBof tbs_57 _ rfl) rfl ?_
          exact ev_ireturn (TBof tbs_57 _ rfl) (retI_z rt_57 (Or.inl rfl)) ⟨_, rfl, H⟩
        · replace H := H.2 c5
          refine ev_iconst (pc1 := 61) (x := 1) (by decide) (TBof tbs_57 _ rfl) rfl ?_
          refine ev_goto (pc1 := 65) (TBof tbs_57 _ rfl) (by decide) ?_
          exact ev_ireturn (TBof tbs_57 _ rfl) (retI_z rt_57 (Or.inr rfl)) ⟨_, rfl, H⟩
    · refine ⟨31, 32, by rw [e1]; rfl, by decide, ?_⟩
      replace H := H.2.2.2 (Int32.toInt_inj.mp (by rw [e1]; decide))
      refine ev_iconst (pc1 := 33) (x := 1) (by decide) (TBof tbs_57 _ rfl) rfl ?_
      exact ev_ireturn (TBof tbs_57 _ rfl) (retI_z rt_57 (Or.inr rfl)) ⟨_, rfl, H⟩
set_option maxRecDepth 100000 in
theorem R_X3_isThing_0 {d : Nat} {v0 : Int32} {M : Im} {h : Hm} {D : Dm} {Q : Int32 → Im → Hm → Dm → Prop} (H : ((v0 < 0) → (Q 0 M h D)) ∧ (¬ (v0 < 0) → (((12 ≤ v0) → (Q 0 M h D)) ∧ (¬ (12 ≤ v0) → (Q 1 M h D))))) : EvI d nX3_isThing 0 [(0, .int v0)] [] M h D Q := by
  refine ev_iload_n (pc1 := 1) rfl (TBof tbs_58 _ rfl) rfl ?_
  refine ev_if (pc1 := 4) (t := 14) (TBof tbs_58 _ rfl) (by decide) rfl (fun c1 => ?_) (fun c1 => ?_)
  · replace H := H.1 c1
    refine ev_iconst (pc1 := 15) (x := 0) (by decide) (TBof tbs_58 _ rfl) rfl ?_
    exact ev_ireturn (TBof tbs_58 _ rfl) (retI_z rt_58 (Or.inl rfl)) ⟨_, rfl, H⟩
  · replace H := H.2 c1
    refine ev_iload_n (pc1 := 5) rfl (TBof tbs_58 _ rfl) rfl ?_
    refine ev_bipush (pc1 := 7) (x := 12) (by decide) (TBof tbs_58 _ rfl) rfl ?_
    refine ev_icmp (pc1 := 10) (t := 14) (TBof tbs_58 _ rfl) (by decide) rfl (fun c2 => ?_) (fun c2 => ?_)
    · replace H := H.1 c2
      refine ev_iconst (pc1 := 15) (x := 0) (by decide) (TBof tbs_58 _ rfl) rfl ?_
      exact ev_ireturn (TBof tbs_58 _ rfl) (retI_z rt_58 (Or.inl rfl)) ⟨_, rfl, H⟩
    · replace H := H.2 c2
      refine ev_iconst (pc1 := 11) (x := 1) (by decide) (TBof tbs_58 _ rfl) rfl ?_
      refine ev_goto (pc1 := 15) (TBof tbs_58 _ rfl) (by decide) ?_
      exact ev_ireturn (TBof tbs_58 _ rfl) (retI_z rt_58 (Or.inr rfl)) ⟨_, rfl, H⟩
set_option maxRecDepth 100000 in
theorem R_X3_oneIf_0 {d : Nat} {v0 : Int32} {M : Im} {h : Hm} {D : Dm} {Q : Int32 → Im → Hm → Dm → Prop} (H : ((v0 = 0) → (Q 0 M h D)) ∧ (¬ (v0 = 0) → (Q 1 M h D))) : EvI d nX3_oneIf 0 [(0, .int v0)] [] M h D Q := by
  refine ev_iload_n (pc1 := 1) rfl (TBof tbs_59 _ rfl) rfl ?_
  refine ev_if (pc1 := 4) (t := 8) (TBof tbs_59 _ rfl) (by decide) rfl (fun c1 => ?_) (fun c1 => ?_)
  · replace H := H.1 c1
    refine ev_iconst (pc1 := 9) (x := 0) (by decide) (TBof tbs_59 _ rfl) rfl ?_
    exact ev_ireturn (TBof tbs_59 _ rfl) (retI_i rt_59) ⟨_, rfl, H⟩
  · replace H := H.2 c1
    refine ev_iconst (pc1 := 5) (x := 1) (by decide) (TBof tbs_59 _ rfl) rfl ?_
    refine ev_goto (pc1 := 9) (TBof tbs_59 _ rfl) (by decide) ?_
    exact ev_ireturn (TBof tbs_59 _ rfl) (retI_i rt_59) ⟨_, rfl, H⟩
set_option maxRecDepth 100000 in
theorem R_X3_bit_0 {d : Nat} {v0 : Int32} {M : Im} {h : Hm} {D : Dm} {Q : Int32 → Im → Hm → Dm → Prop} (H : Q (1 <<< (v0 &&& 31)) M h D) : EvI d nX3_bit 0 [(0, .int v0)] [] M h D Q := by
  refine ev_iconst (pc1 := 1) (x := 1) (by decide) (TBof tbs_60 _ rfl) rfl ?_
  refine ev_iload_n (pc1 := 2) rfl (TBof tbs_60 _ rfl) rfl ?_
  refine ev_ishl (pc1 := 3) (TBof tbs_60 _ rfl) rfl ?_
  exact ev_ireturn (TBof tbs_60 _ rfl) (retI_i rt_60) ⟨_, rfl, H⟩
set_option maxRecDepth 100000 in
theorem R_X3_isIn_0 {d : Nat} {v0 v1 : Int32} {M : Im} {h : Hm} {D : Dm} {Q : Int32 → Im → Hm → Dm → Prop} (H : (((v0 &&& (1 <<< (v1 &&& 31))) = 0) → (Q 0 M h D)) ∧ (¬ ((v0 &&& (1 <<< (v1 &&& 31))) = 0) → (Q 1 M h D))) : EvI d nX3_isIn 0 [(0, .int v0), (1, .int v1)] [] M h D Q := by
  refine ev_iload_n (pc1 := 1) rfl (TBof tbs_61 _ rfl) rfl ?_
  refine ev_iconst (pc1 := 2) (x := 1) (by decide) (TBof tbs_61 _ rfl) rfl ?_
  refine ev_iload_n (pc1 := 3) rfl (TBof tbs_61 _ rfl) rfl ?_
  refine ev_ishl (pc1 := 4) (TBof tbs_61 _ rfl) rfl ?_
  refine ev_iand (pc1 := 5) (TBof tbs_61 _ rfl) rfl ?_
  refine ev_if (pc1 := 8) (t := 12) (TBof tbs_61 _ rfl) (by decide) rfl (fun c1 => ?_) (fun c1 => ?_)
  · replace H := H.1 c1
    refine ev_iconst (pc1 := 13) (x := 0) (by decide) (TBof tbs_61 _ rfl) rfl ?_
    exact ev_ireturn (TBof tbs_61 _ rfl) (retI_z rt_61 (Or.inl rfl)) ⟨_, rfl, H⟩
  · replace H := H.2 c1
    refine ev_iconst (pc1 := 9) (x := 1) (by decide) (TBof tbs_61 _ rfl) rfl ?_
    refine ev_goto (pc1 := 13) (TBof tbs_61 _ rfl) (by decide) ?_
    exact ev_ireturn (TBof tbs_61 _ rfl) (retI_z rt_61 (Or.inr rfl)) ⟨_, rfl, H⟩
set_option maxRecDepth 100000 in
theorem R_X3_bitsOf_0 {d : Nat} {v0 : UInt32} {M : Im} {h : Hm} {D : Dm} {Q : Int32 → Im → Hm → Dm → Prop} (H : ((0 < (Op.cmpValue (FP.fcmp v0 FP.fconst0) CmpOp.g)) → (EvI d nX3_bitsOf 15 [(0, .float v0), (1, .int 127), (2, .float v0), (3, .int 0)] [] M h D Q)) ∧ (¬ (0 < (Op.cmpValue (FP.fcmp v0 FP.fconst0) CmpOp.g)) → (Q 0 M h D))) : EvI d nX3_bitsOf 0 [(0, .float v0)] [] M h D Q := by
  refine ev_fload_n (pc1 := 1) rfl (TBof tbs_62 _ rfl) rfl ?_
  refine ev_fconst0 (pc1 := 2) (TBof tbs_62 _ rfl) rfl ?_
  refine ev_fcmp (pc1 := 3) (TBof tbs_62 _ rfl) rfl ?_
  refine ev_if (pc1 := 6) (t := 8) (TBof tbs_62 _ rfl) (by decide) rfl (fun c1 => ?_) (fun c1 => ?_)
  · replace H := H.1 c1
    refine ev_bipush (pc1 := 10) (x := 127) (by decide) (TBof tbs_62 _ rfl) rfl ?_
    refine ev_istore_n (pc1 := 11) (L1 := [(1, .int 127), (0, .float v0)]) (by rw [ml_62]; decide) rfl (TBof tbs_62 _ rfl) rfl ?_
    refine ev_fload_n (pc1 := 12) rfl (TBof tbs_62 _ rfl) rfl ?_
    refine ev_fstore_n (pc1 := 13) (L1 := [(2, .float v0), (1, .int 127), (0, .float v0)]) (by rw [ml_62]; decide) rfl (TBof tbs_62 _ rfl) rfl ?_
    refine ev_iconst (pc1 := 14) (x := 0) (by decide) (TBof tbs_62 _ rfl) rfl ?_
    refine ev_istore_n (pc1 := 15) (L1 := [(3, .int 0), (2, .float v0), (1, .int 127), (0, .float v0)]) (by rw [ml_62]; decide) rfl (TBof tbs_62 _ rfl) rfl ?_
    exact ev_le [3, 2, 1, 0] rfl rfl H
  · replace H := H.2 c1
    refine ev_iconst (pc1 := 7) (x := 0) (by decide) (TBof tbs_62 _ rfl) rfl ?_
    exact ev_ireturn (TBof tbs_62 _ rfl) (retI_i rt_62) ⟨_, rfl, H⟩
set_option maxRecDepth 100000 in
theorem R_X3_bitsOf_15 {d : Nat} {v0 v2 : UInt32} {v1 v3 : Int32} {M : Im} {h : Hm} {D : Dm} {Q : Int32 → Im → Hm → Dm → Prop} (H : ((128 ≤ v3) → (EvI d nX3_bitsOf 43 [(0, .float v0), (1, .int v1), (2, .float v2), (3, .int 0)] [] M h D Q)) ∧ (¬ (128 ≤ v3) → ((((Op.cmpValue (FP.fcmp v2 FP.fconst2) CmpOp.l) < 0) → (EvI d nX3_bitsOf 43 [(0, .float v0), (1, .int v1), (2, .float v2), (3, .int 0)] [] M h D Q)) ∧ (¬ ((Op.cmpValue (FP.fcmp v2 FP.fconst2) CmpOp.l) < 0) → (vf_n32 (FP.fdiv v2 FP.fconst2) ∧ (EvI d nX3_bitsOf 15 [(0, .float v0), (1, .int (v1 + 1)), (2, .float (FP.fdiv v2 FP.fconst2)), (3, .int (v3 + 1))] [] M h D Q)))))) : EvI d nX3_bitsOf 15 [(0, .float v0), (1, .int v1), (2, .float v2), (3, .int v3)] [] M h D Q := by
  refine ev_iload_n (pc1 := 16) rfl (TBof tbs_62 _ rfl) rfl ?_
  refine ev_sipush (pc1 := 19) (x := 128) (by decide) (TBof tbs_62 _ rfl) rfl ?_
  refine ev_icmp (pc1 := 22) (t := 41) (TBof tbs_62 _ rfl) (by decide) rfl (fun c1 => ?_) (fun c1 => ?_)
  · replace H := H.1 c1
    refine ev_iconst (pc1 := 42) (x := 0) (by decide) (TBof tbs_62 _ rfl) rfl ?_
    refine ev_istore_n (pc1 := 43) (L1 := [(3, .int 0), (0, .float v0), (1, .int v1), (2, .float v2)]) (by rw [ml_62]; decide) rfl (TBof tbs_62 _ rfl) rfl ?_
    exact ev_le [1, 2, 3, 0] rfl rfl H
  · replace H := H.2 c1
    refine ev_fload_n (pc1 := 23) rfl (TBof tbs_62 _ rfl) rfl ?_
    refine ev_fconst2 (pc1 := 24) (TBof tbs_62 _ rfl) rfl ?_
    refine ev_fcmp (pc1 := 25) (TBof tbs_62 _ rfl) rfl ?_
    refine ev_if (pc1 := 28) (t := 41) (TBof tbs_62 _ rfl) (by decide) rfl (fun c2 => ?_) (fun c2 => ?_)
    · replace H := H.1 c2
      refine ev_iconst (pc1 := 42) (x := 0) (by decide) (TBof tbs_62 _ rfl) rfl ?_
      refine ev_istore_n (pc1 := 43) (L1 := [(3, .int 0), (0, .float v0), (1, .int v1), (2, .float v2)]) (by rw [ml_62]; decide) rfl (TBof tbs_62 _ rfl) rfl ?_
      exact ev_le [1, 2, 3, 0] rfl rfl H
    · replace H := H.2 c2
      refine ev_fload_n (pc1 := 29) rfl (TBof tbs_62 _ rfl) rfl ?_
      refine ev_fconst2 (pc1 := 30) (TBof tbs_62 _ rfl) rfl ?_
      refine ev_fdiv (pc1 := 31) H.1 (TBof tbs_62 _ rfl) rfl ?_
      replace H := H.2
      refine ev_fstore_n (pc1 := 32) (L1 := [(2, .float (FP.fdiv v2 FP.fconst2)), (0, .float v0), (1, .int v1), (3, .int v3)]) (by rw [ml_62]; decide) rfl (TBof tbs_62 _ rfl) rfl ?_
      refine ev_iinc (pc1 := 35) (n := 1) (c := 1) (x := v1) (cc := 1) (L1 := [(1, .int (v1 + 1)), (2, .float (FP.fdiv v2 FP.fconst2)), (0, .float v0), (3, .int v3)]) rfl (by rw [ml_62]; decide) (by decide) rfl (TBof tbs_62 _ rfl) rfl ?_
      refine ev_iinc (pc1 := 38) (n := 3) (c := 1) (x := v3) (cc := 1) (L1 := [(3, .int (v3 + 1)), (1, .int (v1 + 1)), (2, .float (FP.fdiv v2 FP.fconst2)), (0, .float v0)]) rfl (by rw [ml_62]; decide) (by decide) rfl (TBof tbs_62 _ rfl) rfl ?_
      refine ev_goto (pc1 := 15) (TBof tbs_62 _ rfl) (by decide) ?_
      exact ev_le [3, 1, 2, 0] rfl rfl H
set_option maxRecDepth 100000 in
theorem R_X3_bitsOf_43 {d : Nat} {v0 v2 : UInt32} {v1 v3 : Int32} {M : Im} {h : Hm} {D : Dm} {Q : Int32 → Im → Hm → Dm → Prop} (H : ((128 ≤ v3) → (EvI d nX3_bitsOf 69 [(0, .float v0), (1, .int v1), (2, .float v2), (3, .int v3)] [] M h D Q)) ∧ (¬ (128 ≤ v3) → (((0 ≤ (Op.cmpValue (FP.fcmp v2 FP.fconst1) CmpOp.g)) → (EvI d nX3_bitsOf 69 [(0, .float v0), (1, .int v1), (2, .float v2), (3, .int v3)] [] M h D Q)) ∧ (¬ (0 ≤ (Op.cmpValue (FP.fcmp v2 FP.fconst1) CmpOp.g)) → (vf_n32 (FP.fmul v2 FP.fconst2) ∧ (EvI d nX3_bitsOf 43 [(0, .float v0), (1, .int (v1 + (-1))), (2, .float (FP.fmul v2 FP.fconst2)), (3, .int (v3 + 1))] [] M h D Q)))))) : EvI d nX3_bitsOf 43 [(0, .float v0), (1, .int v1), (2, .float v2), (3, .int v3)] [] M h D Q := by
  refine ev_iload_n (pc1 := 44) rfl (TBof tbs_62 _ rfl) rfl ?_
  refine ev_sipush (pc1 := 47) (x := 128) (by decide) (TBof tbs_62 _ rfl) rfl ?_
  refine ev_icmp (pc1 := 50) (t := 69) (TBof tbs_62 _ rfl) (by decide) rfl (fun c1 => ?_) (fun c1 => ?_)
  · replace H := H.1 c1
    exact ev_le [0, 1, 2, 3] rfl rfl H
  · replace H := H.2 c1
    refine ev_fload_n (pc1 := 51) rfl (TBof tbs_62 _ rfl) rfl ?_
    refine ev_fconst1 (pc1 := 52) (TBof tbs_62 _ rfl) rfl ?_
    refine ev_fcmp (pc1 := 53) (TBof tbs_62 _ rfl) rfl ?_
    refine ev_if (pc1 := 56) (t := 69) (TBof tbs_62 _ rfl) (by decide) rfl (fun c2 => ?_) (fun c2 => ?_)
    · replace H := H.1 c2
      exact ev_le [0, 1, 2, 3] rfl rfl H
    · replace H := H.2 c2
      refine ev_fload_n (pc1 := 57) rfl (TBof tbs_62 _ rfl) rfl ?_
      refine ev_fconst2 (pc1 := 58) (TBof tbs_62 _ rfl) rfl ?_
      refine ev_fmul (pc1 := 59) H.1 (TBof tbs_62 _ rfl) rfl ?_
      replace H := H.2
      refine ev_fstore_n (pc1 := 60) (L1 := [(2, .float (FP.fmul v2 FP.fconst2)), (0, .float v0), (1, .int v1), (3, .int v3)]) (by rw [ml_62]; decide) rfl (TBof tbs_62 _ rfl) rfl ?_
      refine ev_iinc (pc1 := 63) (n := 1) (c := -1) (x := v1) (cc := (-1)) (L1 := [(1, .int (v1 + (-1))), (2, .float (FP.fmul v2 FP.fconst2)), (0, .float v0), (3, .int v3)]) rfl (by rw [ml_62]; decide) (by decide) rfl (TBof tbs_62 _ rfl) rfl ?_
      refine ev_iinc (pc1 := 66) (n := 3) (c := 1) (x := v3) (cc := 1) (L1 := [(3, .int (v3 + 1)), (1, .int (v1 + (-1))), (2, .float (FP.fmul v2 FP.fconst2)), (0, .float v0)]) rfl (by rw [ml_62]; decide) (by decide) rfl (TBof tbs_62 _ rfl) rfl ?_
      refine ev_goto (pc1 := 43) (TBof tbs_62 _ rfl) (by decide) ?_
      exact ev_le [3, 1, 2, 0] rfl rfl H
set_option maxRecDepth 100000 in
theorem R_X3_bitsOf_69 {d : Nat} {v0 v2 : UInt32} {v1 v3 : Int32} {M : Im} {h : Hm} {D : Dm} {Q : Int32 → Im → Hm → Dm → Prop} (H : vf_n32 (FP.fsub v2 FP.fconst1) ∧ (vf_n32 (FP.fmul (FP.fsub v2 FP.fconst1) 1258291200) ∧ (Q ((v1 <<< (23 &&& 31)) ||| (FP.f2i (FP.fmul (FP.fsub v2 FP.fconst1) 1258291200))) M h D))) : EvI d nX3_bitsOf 69 [(0, .float v0), (1, .int v1), (2, .float v2), (3, .int v3)] [] M h D Q := by
  refine ev_fload_n (pc1 := 70) rfl (TBof tbs_62 _ rfl) rfl ?_
  refine ev_fconst1 (pc1 := 71) (TBof tbs_62 _ rfl) rfl ?_
  refine ev_fsub (pc1 := 72) H.1 (TBof tbs_62 _ rfl) rfl ?_
  replace H := H.2
  refine ev_ldcf (pc1 := 74) (x := 1258291200) rfl (TBof tbs_62 _ rfl) rfl ?_
  refine ev_fmul (pc1 := 75) H.1 (TBof tbs_62 _ rfl) rfl ?_
  replace H := H.2
  refine ev_f2i (pc1 := 76) (TBof tbs_62 _ rfl) rfl ?_
  refine ev_istore_n (pc1 := 77) (L1 := [(3, .int (FP.f2i (FP.fmul (FP.fsub v2 FP.fconst1) 1258291200))), (0, .float v0), (1, .int v1), (2, .float v2)]) (by rw [ml_62]; decide) rfl (TBof tbs_62 _ rfl) rfl ?_
  refine ev_iload_n (pc1 := 78) rfl (TBof tbs_62 _ rfl) rfl ?_
  refine ev_bipush (pc1 := 80) (x := 23) (by decide) (TBof tbs_62 _ rfl) rfl ?_
  refine ev_ishl (pc1 := 81) (TBof tbs_62 _ rfl) rfl ?_
  refine ev_iload_n (pc1 := 82) rfl (TBof tbs_62 _ rfl) rfl ?_
  refine ev_ior (pc1 := 83) (TBof tbs_62 _ rfl) rfl ?_
  exact ev_ireturn (TBof tbs_62 _ rfl) (retI_i rt_62) ⟨_, rfl, H⟩
set_option maxRecDepth 100000 in
theorem R_X3_recordState_0 {d : Nat} {M : Im} {h : Hm} {D : Dm} {Q : Im → Hm → Dm → Prop} (H : (((M 0 6) < 4) → (EvV d nX3_recordState 12 [(0, .ref 0)] [] M h D Q)) ∧ (¬ ((M 0 6) < 4) → (CV d nX3_dropOldest [.ref 0] M h D (fun M2 h2 D2 => EvV d nX3_recordState 12 [(0, .ref 0)] [] M2 h2 D2 Q)))) : EvV d nX3_recordState 0 [(0, .ref 0)] [] M h D Q := by
  refine ev_aload_n (pc1 := 1) rfl rfl (TBof tbs_63 _ rfl) rfl ?_
  refine ev_getI (pc1 := 4) (ci := 3) (k := 6) (TBof tbs_63 _ rfl) rfl (fldof mo_63 fl_3_40) ltc_0 sh_0 nk_3_6 fi_3_6 ?_
  refine ev_iconst (pc1 := 5) (x := 4) (by decide) (TBof tbs_63 _ rfl) rfl ?_
  refine ev_icmp (pc1 := 8) (t := 12) (TBof tbs_63 _ rfl) (by decide) rfl (fun c1 => ?_) (fun c1 => ?_)
  · replace H := H.1 c1
    exact ev_le [0] rfl rfl H
  · replace H := H.2 c1
    refine ev_aload_n (pc1 := 9) rfl rfl (TBof tbs_63 _ rfl) rfl ?_
    refine ev_callvV (pc1 := 12) (as := []) (r := []) (TBof tbs_63 _ rfl) rfl (lnkof mo_63 ln_3_249) rfl na_64 ltc_0 (sh_0.trans (by rw [mo_64])) (Nat.le_of_ble_eq_true rfl) H (fun M2 h2 D2 H => ?_)
    exact ev_le [0] rfl rfl H
set_option maxRecDepth 100000 in
theorem R_X3_recordState_12 {d : Nat} {M : Im} {h : Hm} {D : Dm} {Q : Im → Hm → Dm → Prop} (H : vp_in (M 0 6) 4 ∧ (∃ a1, h ((M 0 6).toNatClampNeg) = some a1 ∧ St a1 ∧ (CV d nX3_copyState [.ref 1, .ref a1] M h D (fun M2 h2 D2 => Q (up2 M2 0 6 ((M2 0 6) + 1)) h2 D2)))) : EvV d nX3_recordState 12 [(0, .ref 0)] [] M h D Q := by
  refine ev_aload_n (pc1 := 13) rfl rfl (TBof tbs_63 _ rfl) rfl ?_
  refine ev_getP (pc1 := 16) (ci := 3) (k := 0) (a := 1) (TBof tbs_63 _ rfl) rfl (fldof mo_63 fl_3_12) ltc_0 sh_0 nk_3_0 fp_3_0 (by decide) pf_0_0 ?_
  refine ev_aload_n (pc1 := 17) rfl rfl (TBof tbs_63 _ rfl) rfl ?_
  refine ev_getP (pc1 := 20) (ci := 3) (k := 3) (a := 28) (TBof tbs_63 _ rfl) rfl (fldof mo_63 fl_3_22) ltc_0 sh_0 nk_3_3 fp_3_3 (by decide) pf_0_3 ?_
  refine ev_aload_n (pc1 := 21) rfl rfl (TBof tbs_63 _ rfl) rfl ?_
  refine ev_getI (pc1 := 24) (ci := 3) (k := 6) (TBof tbs_63 _ rfl) rfl (fldof mo_63 fl_3_40) ltc_0 sh_0 nk_3_6 fi_3_6 ?_
  obtain ⟨g1, a1, f1, ha1, H⟩ := H
  refine ev_aaload (pc1 := 25) (TBof tbs_63 _ rfl) rfl g1 f1 ?_
  refine ev_callsV (pc1 := 28) (as := [.ref 1, .ref a1]) (r := []) (TBof tbs_63 _ rfl) rfl (lnkof mo_63 ln_3_184) (Or.inl rfl) rfl na_65 (Nat.le_of_ble_eq_true rfl) H (fun M2 h2 D2 H => ?_)
  refine ev_aload_n (pc1 := 29) rfl rfl (TBof tbs_63 _ rfl) rfl ?_
  refine ev_dup (pc1 := 30) rfl (TBof tbs_63 _ rfl) rfl ?_
  refine ev_getI (pc1 := 33) (ci := 3) (k := 6) (TBof tbs_63 _ rfl) rfl (fldof mo_63 fl_3_40) ltc_0 sh_0 nk_3_6 fi_3_6 ?_
  refine ev_iconst (pc1 := 34) (x := 1) (by decide) (TBof tbs_63 _ rfl) rfl ?_
  refine ev_iadd (pc1 := 35) (TBof tbs_63 _ rfl) rfl ?_
  refine ev_putI (pc1 := 38) (ci := 3) (k := 6) (TBof tbs_63 _ rfl) rfl (fldof mo_63 fl_3_40) ltc_0 sh_0 nk_3_6 rfl rfl ?_
  exact ev_return (TBof tbs_63 _ rfl) rt_63 ⟨rfl, H⟩
set_option maxRecDepth 100000 in
theorem R_X3_dropOldest_0 {d : Nat} {M : Im} {h : Hm} {D : Dm} {Q : Im → Hm → Dm → Prop} (H : vp_in 0 4 ∧ (∃ a1, h ((0 : Int32).toNatClampNeg) = some a1 ∧ St a1 ∧ (EvV d nX3_dropOldest 9 [(0, .ref 0), (1, .ref a1), (2, .int 1)] [] M h D Q))) : EvV d nX3_dropOldest 0 [(0, .ref 0)] [] M h D Q := by
  refine ev_aload_n (pc1 := 1) rfl rfl (TBof tbs_64 _ rfl) rfl ?_
  refine ev_getP (pc1 := 4) (ci := 3) (k := 3) (a := 28) (TBof tbs_64 _ rfl) rfl (fldof mo_64 fl_3_22) ltc_0 sh_0 nk_3_3 fp_3_3 (by decide) pf_0_3 ?_
  refine ev_iconst (pc1 := 5) (x := 0) (by decide) (TBof tbs_64 _ rfl) rfl ?_
  obtain ⟨g1, a1, f1, ha1, H⟩ := H
  refine ev_aaload (pc1 := 6) (TBof tbs_64 _ rfl) rfl g1 f1 ?_
  refine ev_astore_n (pc1 := 7) (L1 := [(1, .ref a1), (0, .ref 0)]) (by rw [ml_64]; decide) rfl (TBof tbs_64 _ rfl) rfl ?_
  refine ev_iconst (pc1 := 8) (x := 1) (by decide) (TBof tbs_64 _ rfl) rfl ?_
  refine ev_istore_n (pc1 := 9) (L1 := [(2, .int 1), (1, .ref a1), (0, .ref 0)]) (by rw [ml_64]; decide) rfl (TBof tbs_64 _ rfl) rfl ?_
  exact ev_le [2, 1, 0] rfl rfl H
set_option maxRecDepth 100000 in
theorem R_X3_dropOldest_9 {d : Nat} {r1 : Nat} {v2 : Int32} {M : Im} {h : Hm} {D : Dm} {Q : Im → Hm → Dm → Prop} (hr1 : St r1) (H : ((4 ≤ v2) → (vp_in 3 4 ∧ (Q (up2 M 0 6 3) (va_up h ((3 : Int32).toNatClampNeg) (some r1)) D))) ∧ (¬ (4 ≤ v2) → (vp_in v2 4 ∧ (∃ a2, h (v2.toNatClampNeg) = some a2 ∧ St a2 ∧ (vp_in (v2 - 1) 4 ∧ (EvV d nX3_dropOldest 9 [(0, .ref 0), (1, .ref r1), (2, .int (v2 + 1))] [] M (va_up h ((v2 - 1).toNatClampNeg) (some a2)) D Q)))))) : EvV d nX3_dropOldest 9 [(0, .ref 0), (1, .ref r1), (2, .int v2)] [] M h D Q := by
  refine ev_iload_n (pc1 := 10) rfl (TBof tbs_64 _ rfl) rfl ?_
  refine ev_iconst (pc1 := 11) (x := 4) (by decide) (TBof tbs_64 _ rfl) rfl ?_
  refine ev_icmp (pc1 := 14) (t := 34) (TBof tbs_64 _ rfl) (by decide) rfl (fun c1 => ?_) (fun c1 => ?_)
  · replace H := H.1 c1
    refine ev_aload_n (pc1 := 35) rfl rfl (TBof tbs_64 _ rfl) rfl ?_
    refine ev_getP (pc1 := 38) (ci := 3) (k := 3) (a := 28) (TBof tbs_64 _ rfl) rfl (fldof mo_64 fl_3_22) ltc_0 sh_0 nk_3_3 fp_3_3 (by decide) pf_0_3 ?_
    refine ev_iconst (pc1 := 39) (x := 3) (by decide) (TBof tbs_64 _ rfl) rfl ?_
    refine ev_aload_n (pc1 := 40) rfl rfl (TBof tbs_64 _ rfl) rfl ?_
    refine ev_aastore (pc1 := 41) (TBof tbs_64 _ rfl) rfl H.1 hr1.lt0 hr1.sh ?_
    replace H := H.2
    refine ev_aload_n (pc1 := 42) rfl rfl (TBof tbs_64 _ rfl) rfl ?_
    refine ev_iconst (pc1 := 43) (x := 3) (by decide) (TBof tbs_64 _ rfl) rfl ?_
    refine ev_putI (pc1 := 46) (ci := 3) (k := 6) (TBof tbs_64 _ rfl) rfl (fldof mo_64 fl_3_40) ltc_0 sh_0 nk_3_6 rfl rfl ?_
    exact ev_return (TBof tbs_64 _ rfl) rt_64 ⟨rfl, H⟩
  · replace H := H.2 c1
    refine ev_aload_n (pc1 := 15) rfl rfl (TBof tbs_64 _ rfl) rfl ?_
    refine ev_getP (pc1 := 18) (ci := 3) (k := 3) (a := 28) (TBof tbs_64 _ rfl) rfl (fldof mo_64 fl_3_22) ltc_0 sh_0 nk_3_3 fp_3_3 (by decide) pf_0_3 ?_
    refine ev_iload_n (pc1 := 19) rfl (TBof tbs_64 _ rfl) rfl ?_
    refine ev_iconst (pc1 := 20) (x := 1) (by decide) (TBof tbs_64 _ rfl) rfl ?_
    refine ev_isub (pc1 := 21) (TBof tbs_64 _ rfl) rfl ?_
    refine ev_aload_n (pc1 := 22) rfl rfl (TBof tbs_64 _ rfl) rfl ?_
    refine ev_getP (pc1 := 25) (ci := 3) (k := 3) (a := 28) (TBof tbs_64 _ rfl) rfl (fldof mo_64 fl_3_22) ltc_0 sh_0 nk_3_3 fp_3_3 (by decide) pf_0_3 ?_
    refine ev_iload_n (pc1 := 26) rfl (TBof tbs_64 _ rfl) rfl ?_
    obtain ⟨g2, a2, f2, ha2, H⟩ := H
    refine ev_aaload (pc1 := 27) (TBof tbs_64 _ rfl) rfl g2 f2 ?_
    refine ev_aastore (pc1 := 28) (TBof tbs_64 _ rfl) rfl H.1 ha2.lt0 ha2.sh ?_
    replace H := H.2
    refine ev_iinc (pc1 := 31) (n := 2) (c := 1) (x := v2) (cc := 1) (L1 := [(2, .int (v2 + 1)), (0, .ref 0), (1, .ref r1)]) rfl (by rw [ml_64]; decide) (by decide) rfl (TBof tbs_64 _ rfl) rfl ?_
    refine ev_goto (pc1 := 9) (TBof tbs_64 _ rfl) (by decide) ?_
    exact ev_le [1, 2, 0] rfl rfl H
set_option maxRecDepth 100000 in
theorem R_X3_copyState_0 {d : Nat} {S : Nat} {T : Nat} {M : Im} {h : Hm} {D : Dm} {Q : Im → Hm → Dm → Prop} (hS : St S) (hT : St T) (H : CV d nX2_copyFrom [.ref T, .ref S] M h D (fun M1 h1 D1 => Q M1 h1 D1)) : EvV d nX3_copyState 0 [(0, .ref S), (1, .ref T)] [] M h D Q := by
  refine ev_aload_n (pc1 := 1) rfl rfl (TBof tbs_65 _ rfl) rfl ?_
  refine ev_ifnull (pc1 := 4) (TBof tbs_65 _ rfl) rfl ?_
  refine ev_aload_n (pc1 := 5) rfl rfl (TBof tbs_65 _ rfl) rfl ?_
  refine ev_ifnull (pc1 := 8) (TBof tbs_65 _ rfl) rfl ?_
  refine ev_aload_n (pc1 := 9) rfl rfl (TBof tbs_65 _ rfl) rfl ?_
  refine ev_aload_n (pc1 := 10) rfl rfl (TBof tbs_65 _ rfl) rfl ?_
  refine ev_callvV (pc1 := 13) (as := [.ref S]) (r := []) (TBof tbs_65 _ rfl) rfl (lnkof mo_65 ln_3_252) rfl na_14 hT.lt0 (hT.sh.trans (by rw [mo_14])) (Nat.le_of_ble_eq_true rfl) H (fun M1 h1 D1 H => ?_)
  exact ev_return (TBof tbs_65 _ rfl) rt_65 ⟨rfl, H⟩
set_option maxRecDepth 100000 in
theorem R_X3_canComeTo_0 {d : Nat} {v1 : Int32} {M : Im} {h : Hm} {D : Dm} {Q : Int32 → Im → Hm → Dm → Prop} (H : CV d nX3_copyState [.ref 1, .ref 19] M h D (fun M1 h1 D1 => CV d nX2_makeAllSteps [.ref 19] M1 h1 D1 (fun M2 h2 D2 => CI d nX2_isOpen [.ref 19, .int v1] M2 h2 D2 (fun x3 M3 h3 D3 => ((x3 = 0) → (Q 0 M3 h3 D3)) ∧ (¬ (x3 = 0) → (CI d nX2_isReached [.ref 19, .int v1] M3 h3 D3 (fun x5 M5 h5 D5 => ((x5 = 0) → (Q 0 M5 h5 D5)) ∧ (¬ (x5 = 0) → (Q 1 M5 h5 D5))))))))) : EvI d nX3_canComeTo 0 [(0, .ref 0), (1, .int v1)] [] M h D Q := by
  refine ev_aload_n (pc1 := 1) rfl rfl (TBof tbs_66 _ rfl) rfl ?_
  refine ev_getP (pc1 := 4) (ci := 3) (k := 0) (a := 1) (TBof tbs_66 _ rfl) rfl (fldof mo_66 fl_3_12) ltc_0 sh_0 nk_3_0 fp_3_0 (by decide) pf_0_0 ?_
  refine ev_aload_n (pc1 := 5) rfl rfl (TBof tbs_66 _ rfl) rfl ?_
  refine ev_getP (pc1 := 8) (ci := 3) (k := 2) (a := 19) (TBof tbs_66 _ rfl) rfl (fldof mo_66 fl_3_19) ltc_0 sh_0 nk_3_2 fp_3_2 (by decide) pf_0_2 ?_
  refine ev_callsV (pc1 := 11) (as := [.ref 1, .ref 19]) (r := []) (TBof tbs_66 _ rfl) rfl (lnkof mo_66 ln_3_184) (Or.inl rfl) rfl na_65 (Nat.le_of_ble_eq_true rfl) H (fun M1 h1 D1 H => ?_)
  refine ev_aload_n (pc1 := 12) rfl rfl (TBof tbs_66 _ rfl) rfl ?_
  refine ev_getP (pc1 := 15) (ci := 3) (k := 2) (a := 19) (TBof tbs_66 _ rfl) rfl (fldof mo_66 fl_3_19) ltc_0 sh_0 nk_3_2 fp_3_2 (by decide) pf_0_2 ?_
  refine ev_callvV (pc1 := 18) (as := []) (r := []) (TBof tbs_66 _ rfl) rfl (lnkof mo_66 ln_3_256) rfl na_30 ltc_19 (sh_19.trans (by rw [mo_30])) (Nat.le_of_ble_eq_true rfl) H (fun M2 h2 D2 H => ?_)
  refine ev_aload_n (pc1 := 19) rfl rfl (TBof tbs_66 _ rfl) rfl ?_
  refine ev_getP (pc1 := 22) (ci := 3) (k := 2) (a := 19) (TBof tbs_66 _ rfl) rfl (fldof mo_66 fl_3_19) ltc_0 sh_0 nk_3_2 fp_3_2 (by decide) pf_0_2 ?_
  refine ev_iload_n (pc1 := 23) rfl (TBof tbs_66 _ rfl) rfl ?_
  refine ev_callvI (pc1 := 26) (as := [.int v1]) (r := []) (TBof tbs_66 _ rfl) rfl (lnkof mo_66 ln_3_119) rfl na_19 ltc_19 (sh_19.trans (by rw [mo_19])) (Nat.le_of_ble_eq_true rfl) H (fun x3 M3 h3 D3 H => ?_)
  refine ev_if (pc1 := 29) (t := 44) (TBof tbs_66 _ rfl) (by decide) rfl (fun c4 => ?_) (fun c4 => ?_)
  · replace H := H.1 c4
    refine ev_iconst (pc1 := 45) (x := 0) (by decide) (TBof tbs_66 _ rfl) rfl ?_
    exact ev_ireturn (TBof tbs_66 _ rfl) (retI_z rt_66 (Or.inl rfl)) ⟨_, rfl, H⟩
  · replace H := H.2 c4
    refine ev_aload_n (pc1 := 30) rfl rfl (TBof tbs_66 _ rfl) rfl ?_
    refine ev_getP (pc1 := 33) (ci := 3) (k := 2) (a := 19) (TBof tbs_66 _ rfl) rfl (fldof mo_66 fl_3_19) ltc_0 sh_0 nk_3_2 fp_3_2 (by decide) pf_0_2 ?_
    refine ev_iload_n (pc1 := 34) rfl (TBof tbs_66 _ rfl) rfl ?_
    refine ev_callvI (pc1 := 37) (as := [.int v1]) (r := []) (TBof tbs_66 _ rfl) rfl (lnkof mo_66 ln_3_144) rfl na_21 ltc_19 (sh_19.trans (by rw [mo_21])) (Nat.le_of_ble_eq_true rfl) H (fun x5 M5 h5 D5 H => ?_)
    refine ev_if (pc1 := 40) (t := 44) (TBof tbs_66 _ rfl) (by decide) rfl (fun c6 => ?_) (fun c6 => ?_)
    · replace H := H.1 c6
      refine ev_iconst (pc1 := 45) (x := 0) (by decide) (TBof tbs_66 _ rfl) rfl ?_
      exact ev_ireturn (TBof tbs_66 _ rfl) (retI_z rt_66 (Or.inl rfl)) ⟨_, rfl, H⟩
    · replace H := H.2 c6
      refine ev_iconst (pc1 := 41) (x := 1) (by decide) (TBof tbs_66 _ rfl) rfl ?_
      refine ev_goto (pc1 := 45) (TBof tbs_66 _ rfl) (by decide) ?_
      exact ev_ireturn (TBof tbs_66 _ rfl) (retI_z rt_66 (Or.inr rfl)) ⟨_, rfl, H⟩
set_option maxRecDepth 100000 in
theorem R_X3_neverOpened_0 {d : Nat} {M : Im} {h : Hm} {D : Dm} {Q : Int32 → Im → Hm → Dm → Prop} (H : CV d nX3_copyState [.ref 1, .ref 19] M h D (fun M1 h1 D1 => CV d nX2_putBack [.ref 19] M1 h1 D1 (fun M2 h2 D2 => CV d nX2_makeAllSteps [.ref 19] M2 h2 D2 (fun M3 h3 D3 => CI d nX3_bit [.int (M3 19 0)] M3 h3 D3 (fun x4 M4 h4 D4 => Q ((x4 - 1) &&& ((M4 19 4) ^^^ (-1))) M4 h4 D4))))) : EvI d nX3_neverOpened 0 [(0, .ref 0)] [] M h D Q := by
  refine ev_aload_n (pc1 := 1) rfl rfl (TBof tbs_67 _ rfl) rfl ?_
  refine ev_getP (pc1 := 4) (ci := 3) (k := 0) (a := 1) (TBof tbs_67 _ rfl) rfl (fldof mo_67 fl_3_12) ltc_0 sh_0 nk_3_0 fp_3_0 (by decide) pf_0_0 ?_
  refine ev_aload_n (pc1 := 5) rfl rfl (TBof tbs_67 _ rfl) rfl ?_
  refine ev_getP (pc1 := 8) (ci := 3) (k := 2) (a := 19) (TBof tbs_67 _ rfl) rfl (fldof mo_67 fl_3_19) ltc_0 sh_0 nk_3_2 fp_3_2 (by decide) pf_0_2 ?_
  refine ev_callsV (pc1 := 11) (as := [.ref 1, .ref 19]) (r := []) (TBof tbs_67 _ rfl) rfl (lnkof mo_67 ln_3_184) (Or.inl rfl) rfl na_65 (Nat.le_of_ble_eq_true rfl) H (fun M1 h1 D1 H => ?_)
  refine ev_aload_n (pc1 := 12) rfl rfl (TBof tbs_67 _ rfl) rfl ?_
  refine ev_getP (pc1 := 15) (ci := 3) (k := 2) (a := 19) (TBof tbs_67 _ rfl) rfl (fldof mo_67 fl_3_19) ltc_0 sh_0 nk_3_2 fp_3_2 (by decide) pf_0_2 ?_
  refine ev_callvV (pc1 := 18) (as := []) (r := []) (TBof tbs_67 _ rfl) rfl (lnkof mo_67 ln_3_113) rfl na_17 ltc_19 (sh_19.trans (by rw [mo_17])) (Nat.le_of_ble_eq_true rfl) H (fun M2 h2 D2 H => ?_)
  refine ev_aload_n (pc1 := 19) rfl rfl (TBof tbs_67 _ rfl) rfl ?_
  refine ev_getP (pc1 := 22) (ci := 3) (k := 2) (a := 19) (TBof tbs_67 _ rfl) rfl (fldof mo_67 fl_3_19) ltc_0 sh_0 nk_3_2 fp_3_2 (by decide) pf_0_2 ?_
  refine ev_callvV (pc1 := 25) (as := []) (r := []) (TBof tbs_67 _ rfl) rfl (lnkof mo_67 ln_3_256) rfl na_30 ltc_19 (sh_19.trans (by rw [mo_30])) (Nat.le_of_ble_eq_true rfl) H (fun M3 h3 D3 H => ?_)
  refine ev_aload_n (pc1 := 26) rfl rfl (TBof tbs_67 _ rfl) rfl ?_
  refine ev_getP (pc1 := 29) (ci := 3) (k := 2) (a := 19) (TBof tbs_67 _ rfl) rfl (fldof mo_67 fl_3_19) ltc_0 sh_0 nk_3_2 fp_3_2 (by decide) pf_0_2 ?_
  refine ev_getI (pc1 := 32) (ci := 2) (k := 0) (TBof tbs_67 _ rfl) rfl (fldof mo_67 fl_3_56) ltc_19 sh_19 nk_2_0 fi_2_0 ?_
  refine ev_callsI (pc1 := 35) (as := [.int (M3 19 0)]) (r := []) (TBof tbs_67 _ rfl) rfl (lnkof mo_67 ln_3_147) (Or.inl rfl) rfl na_60 (Nat.le_of_ble_eq_true rfl) H (fun x4 M4 h4 D4 H => ?_)
  refine ev_iconst (pc1 := 36) (x := 1) (by decide) (TBof tbs_67 _ rfl) rfl ?_
  refine ev_isub (pc1 := 37) (TBof tbs_67 _ rfl) rfl ?_
  refine ev_aload_n (pc1 := 38) rfl rfl (TBof tbs_67 _ rfl) rfl ?_
  refine ev_getP (pc1 := 41) (ci := 3) (k := 2) (a := 19) (TBof tbs_67 _ rfl) rfl (fldof mo_67 fl_3_19) ltc_0 sh_0 nk_3_2 fp_3_2 (by decide) pf_0_2 ?_
  refine ev_getI (pc1 := 44) (ci := 2) (k := 4) (TBof tbs_67 _ rfl) rfl (fldof mo_67 fl_3_135) ltc_19 sh_19 nk_2_4 fi_2_4 ?_
  refine ev_iconst (pc1 := 45) (x := (-1)) (by decide) (TBof tbs_67 _ rfl) rfl ?_
  refine ev_ixor (pc1 := 46) (TBof tbs_67 _ rfl) rfl ?_
  refine ev_iand (pc1 := 47) (TBof tbs_67 _ rfl) rfl ?_
  exact ev_ireturn (TBof tbs_67 _ rfl) (retI_i rt_67) ⟨_, rfl, H⟩

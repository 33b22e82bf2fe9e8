/-! what each block of code asks: class 1 -/
set_option maxRecDepth 100000 in
theorem R_X1_make_0 {d : Nat} {v2 : Int32} {M : Im} {h : Hm} {D : Dm} {Q : Im → Hm → Dm → Prop} (H : EvV d nX1_make 12 [(0, .ref 29), (1, .ref 1), (2, .int v2), (3, .int 0)] [] (up2 (up2 M 29 0 0) 29 1 0) h D Q) : EvV d nX1_make 0 [(0, .ref 29), (1, .ref 1), (2, .int v2)] [] M h D Q := by
  refine ev_aload_n (pc1 := 1) rfl rfl (TBof tbs_2 _ rfl) rfl ?_
  refine ev_iconst (pc1 := 2) (x := 0) (by decide) (TBof tbs_2 _ rfl) rfl ?_
  refine ev_putI (pc1 := 5) (ci := 1) (k := 0) (TBof tbs_2 _ rfl) rfl (fldof mo_2 fl_1_15) ltc_29 sh_29 nk_1_0 rfl rfl ?_
  refine ev_aload_n (pc1 := 6) rfl rfl (TBof tbs_2 _ rfl) rfl ?_
  refine ev_iconst (pc1 := 7) (x := 0) (by decide) (TBof tbs_2 _ rfl) rfl ?_
  refine ev_putI (pc1 := 10) (ci := 1) (k := 1) (TBof tbs_2 _ rfl) rfl (fldof mo_2 fl_1_19) ltc_29 sh_29 nk_1_1 rfl rfl ?_
  refine ev_iconst (pc1 := 11) (x := 0) (by decide) (TBof tbs_2 _ rfl) rfl ?_
  refine ev_istore_n (pc1 := 12) (L1 := [(3, .int 0), (0, .ref 29), (1, .ref 1), (2, .int v2)]) (by rw [ml_2]; decide) rfl (TBof tbs_2 _ rfl) rfl ?_
  exact ev_le [1, 2, 3, 0] rfl rfl H
set_option maxRecDepth 100000 in
theorem R_X1_make_12 {d : Nat} {v2 v3 : Int32} {M : Im} {h : Hm} {D : Dm} {Q : Im → Hm → Dm → Prop} (H : ((16 ≤ v3) → (CV d nX1_addWayInto [.ref 29, .ref 1, .int v2] M h D (fun M2 h2 D2 => EvV d nX1_make 42 [(0, .ref 29), (1, .ref 1), (2, .int v2), (3, .int 0), (4, .int 0)] [] M2 h2 D2 Q))) ∧ (¬ (16 ≤ v3) → (vp_in v3 16 ∧ (EvV d nX1_make 12 [(0, .ref 29), (1, .ref 1), (2, .int v2), (3, .int (v3 + 1))] [] (up2 M 30 (v3.toNatClampNeg) 0) h D Q)))) : EvV d nX1_make 12 [(0, .ref 29), (1, .ref 1), (2, .int v2), (3, .int v3)] [] M h D Q := by
  refine ev_iload_n (pc1 := 13) rfl (TBof tbs_2 _ rfl) rfl ?_
  refine ev_bipush (pc1 := 15) (x := 16) (by decide) (TBof tbs_2 _ rfl) rfl ?_
  refine ev_icmp (pc1 := 18) (t := 31) (TBof tbs_2 _ rfl) (by decide) rfl (fun c1 => ?_) (fun c1 => ?_)
  · replace H := H.1 c1
    refine ev_aload_n (pc1 := 32) rfl rfl (TBof tbs_2 _ rfl) rfl ?_
    refine ev_aload_n (pc1 := 33) rfl rfl (TBof tbs_2 _ rfl) rfl ?_
    refine ev_iload_n (pc1 := 34) rfl (TBof tbs_2 _ rfl) rfl ?_
    refine ev_callvV (pc1 := 37) (as := [.ref 1, .int v2]) (r := []) (TBof tbs_2 _ rfl) rfl (lnkof mo_2 ln_1_22) rfl na_8 ltc_29 (sh_29.trans (by rw [mo_8])) (Nat.le_of_ble_eq_true rfl) H (fun M2 h2 D2 H => ?_)
    refine ev_iconst (pc1 := 38) (x := 0) (by decide) (TBof tbs_2 _ rfl) rfl ?_
    refine ev_istore_n (pc1 := 39) (L1 := [(3, .int 0), (0, .ref 29), (1, .ref 1), (2, .int v2)]) (by rw [ml_2]; decide) rfl (TBof tbs_2 _ rfl) rfl ?_
    refine ev_iconst (pc1 := 40) (x := 0) (by decide) (TBof tbs_2 _ rfl) rfl ?_
    refine ev_istore (pc1 := 42) (L1 := [(4, .int 0), (3, .int 0), (0, .ref 29), (1, .ref 1), (2, .int v2)]) (by rw [ml_2]; decide) rfl (TBof tbs_2 _ rfl) rfl ?_
    exact ev_le [2, 3, 4, 1, 0] rfl rfl H
  · replace H := H.2 c1
    refine ev_aload_n (pc1 := 19) rfl rfl (TBof tbs_2 _ rfl) rfl ?_
    refine ev_getP (pc1 := 22) (ci := 1) (k := 2) (a := 30) (TBof tbs_2 _ rfl) rfl (fldof mo_2 fl_1_9) ltc_29 sh_29 nk_1_2 fp_1_2 (by decide) pf_29_2 ?_
    refine ev_iload_n (pc1 := 23) rfl (TBof tbs_2 _ rfl) rfl ?_
    refine ev_iconst (pc1 := 24) (x := 0) (by decide) (TBof tbs_2 _ rfl) rfl ?_
    refine ev_iastore (pc1 := 25) (n := 16) (TBof tbs_2 _ rfl) rfl ltc_30 sh_30 H.1 ?_
    replace H := H.2
    refine ev_iinc (pc1 := 28) (n := 3) (c := 1) (x := v3) (cc := 1) (L1 := [(3, .int (v3 + 1)), (0, .ref 29), (1, .ref 1), (2, .int v2)]) rfl (by rw [ml_2]; decide) (by decide) rfl (TBof tbs_2 _ rfl) rfl ?_
    refine ev_goto (pc1 := 12) (TBof tbs_2 _ rfl) (by decide) ?_
    exact ev_le [1, 2, 3, 0] rfl rfl H
set_option maxRecDepth 100000 in
theorem R_X1_make_42 {d : Nat} {v2 v3 v4 : Int32} {M : Im} {h : Hm} {D : Dm} {Q : Im → Hm → Dm → Prop} (H : ((76 < v4) → (Q M h D)) ∧ (¬ (76 < v4) → (CI d nX1_countSteps [.ref 29, .ref 1] M h D (fun x2 M2 h2 D2 => ((x2 ≤ v3) → (Q M2 h2 D2)) ∧ (¬ (x2 ≤ v3) → (CI d nX1_countSteps [.ref 29, .ref 1] M2 h2 D2 (fun x4 M4 h4 D4 => CV d nX1_addNeedsOfAll [.ref 29, .ref 1] M4 h4 D4 (fun M5 h5 D5 => EvV d nX1_make 42 [(0, .ref 29), (1, .ref 1), (2, .int v2), (3, .int x4), (4, .int (v4 + 1))] [] M5 h5 D5 Q)))))))) : EvV d nX1_make 42 [(0, .ref 29), (1, .ref 1), (2, .int v2), (3, .int v3), (4, .int v4)] [] M h D Q := by
  refine ev_iload (pc1 := 44) rfl (TBof tbs_2 _ rfl) rfl ?_
  refine ev_bipush (pc1 := 46) (x := 76) (by decide) (TBof tbs_2 _ rfl) rfl ?_
  refine ev_icmp (pc1 := 49) (t := 75) (TBof tbs_2 _ rfl) (by decide) rfl (fun c1 => ?_) (fun c1 => ?_)
  · replace H := H.1 c1
    exact ev_return (TBof tbs_2 _ rfl) rt_2 ⟨rfl, H⟩
  · replace H := H.2 c1
    refine ev_aload_n (pc1 := 50) rfl rfl (TBof tbs_2 _ rfl) rfl ?_
    refine ev_aload_n (pc1 := 51) rfl rfl (TBof tbs_2 _ rfl) rfl ?_
    refine ev_callvI (pc1 := 54) (as := [.ref 1]) (r := []) (TBof tbs_2 _ rfl) rfl (lnkof mo_2 ln_1_26) rfl na_3 ltc_29 (sh_29.trans (by rw [mo_3])) (Nat.le_of_ble_eq_true rfl) H (fun x2 M2 h2 D2 H => ?_)
    refine ev_iload_n (pc1 := 55) rfl (TBof tbs_2 _ rfl) rfl ?_
    refine ev_icmp (pc1 := 58) (t := 75) (TBof tbs_2 _ rfl) (by decide) rfl (fun c3 => ?_) (fun c3 => ?_)
    · replace H := H.1 c3
      exact ev_return (TBof tbs_2 _ rfl) rt_2 ⟨rfl, H⟩
    · replace H := H.2 c3
      refine ev_aload_n (pc1 := 59) rfl rfl (TBof tbs_2 _ rfl) rfl ?_
      refine ev_aload_n (pc1 := 60) rfl rfl (TBof tbs_2 _ rfl) rfl ?_
      refine ev_callvI (pc1 := 63) (as := [.ref 1]) (r := []) (TBof tbs_2 _ rfl) rfl (lnkof mo_2 ln_1_26) rfl na_3 ltc_29 (sh_29.trans (by rw [mo_3])) (Nat.le_of_ble_eq_true rfl) H (fun x4 M4 h4 D4 H => ?_)
      refine ev_istore_n (pc1 := 64) (L1 := [(3, .int x4), (0, .ref 29), (1, .ref 1), (2, .int v2), (4, .int v4)]) (by rw [ml_2]; decide) rfl (TBof tbs_2 _ rfl) rfl ?_
      refine ev_aload_n (pc1 := 65) rfl rfl (TBof tbs_2 _ rfl) rfl ?_
      refine ev_aload_n (pc1 := 66) rfl rfl (TBof tbs_2 _ rfl) rfl ?_
      refine ev_callvV (pc1 := 69) (as := [.ref 1]) (r := []) (TBof tbs_2 _ rfl) rfl (lnkof mo_2 ln_1_30) rfl na_7 ltc_29 (sh_29.trans (by rw [mo_7])) (Nat.le_of_ble_eq_true rfl) H (fun M5 h5 D5 H => ?_)
      refine ev_iinc (pc1 := 72) (n := 4) (c := 1) (x := v4) (cc := 1) (L1 := [(4, .int (v4 + 1)), (3, .int x4), (0, .ref 29), (1, .ref 1), (2, .int v2)]) rfl (by rw [ml_2]; decide) (by decide) rfl (TBof tbs_2 _ rfl) rfl ?_
      refine ev_goto (pc1 := 42) (TBof tbs_2 _ rfl) (by decide) ?_
      exact ev_le [2, 3, 4, 1, 0] rfl rfl H
set_option maxRecDepth 100000 in
theorem R_X1_countSteps_0 {d : Nat} {M : Im} {h : Hm} {D : Dm} {Q : Int32 → Im → Hm → Dm → Prop} (H : CI d nJ6_bitCount_0f7a4 [.int (M 29 0)] M h D (fun x1 M1 h1 D1 => CI d nJ6_bitCount_0f7a4 [.int (M1 29 1)] M1 h1 D1 (fun x2 M2 h2 D2 => CI d nX1_countLiftings [.ref 29, .ref 1] M2 h2 D2 (fun x3 M3 h3 D3 => Q ((x1 + x2) + x3) M3 h3 D3)))) : EvI d nX1_countSteps 0 [(0, .ref 29), (1, .ref 1)] [] M h D Q := by
  refine ev_aload_n (pc1 := 1) rfl rfl (TBof tbs_3 _ rfl) rfl ?_
  refine ev_getI (pc1 := 4) (ci := 1) (k := 0) (TBof tbs_3 _ rfl) rfl (fldof mo_3 fl_1_15) ltc_29 sh_29 nk_1_0 fi_1_0 ?_
  refine ev_callsI (pc1 := 7) (as := [.int (M 29 0)]) (r := []) (TBof tbs_3 _ rfl) rfl (lnkof mo_3 ln_1_34) (Or.inl rfl) rfl na_68 (Nat.le_of_ble_eq_true rfl) H (fun x1 M1 h1 D1 H => ?_)
  refine ev_aload_n (pc1 := 8) rfl rfl (TBof tbs_3 _ rfl) rfl ?_
  refine ev_getI (pc1 := 11) (ci := 1) (k := 1) (TBof tbs_3 _ rfl) rfl (fldof mo_3 fl_1_19) ltc_29 sh_29 nk_1_1 fi_1_1 ?_
  refine ev_callsI (pc1 := 14) (as := [.int (M1 29 1)]) (r := [.int x1]) (TBof tbs_3 _ rfl) rfl (lnkof mo_3 ln_1_34) (Or.inl rfl) rfl na_68 (Nat.le_of_ble_eq_true rfl) H (fun x2 M2 h2 D2 H => ?_)
  refine ev_iadd (pc1 := 15) (TBof tbs_3 _ rfl) rfl ?_
  refine ev_aload_n (pc1 := 16) rfl rfl (TBof tbs_3 _ rfl) rfl ?_
  refine ev_aload_n (pc1 := 17) rfl rfl (TBof tbs_3 _ rfl) rfl ?_
  refine ev_callvI (pc1 := 20) (as := [.ref 1]) (r := [.int (x1 + x2)]) (TBof tbs_3 _ rfl) rfl (lnkof mo_3 ln_1_40) rfl na_4 ltc_29 (sh_29.trans (by rw [mo_4])) (Nat.le_of_ble_eq_true rfl) H (fun x3 M3 h3 D3 H => ?_)
  refine ev_iadd (pc1 := 21) (TBof tbs_3 _ rfl) rfl ?_
  exact ev_ireturn (TBof tbs_3 _ rfl) (retI_i rt_3) ⟨_, rfl, H⟩
set_option maxRecDepth 100000 in
theorem R_X1_countLiftings_0 {d : Nat} {M : Im} {h : Hm} {D : Dm} {Q : Int32 → Im → Hm → Dm → Prop} (H : EvI d nX1_countLiftings 4 [(0, .ref 29), (1, .ref 1), (2, .int 0), (3, .int 0)] [] M h D Q) : EvI d nX1_countLiftings 0 [(0, .ref 29), (1, .ref 1)] [] M h D Q := by
  refine ev_iconst (pc1 := 1) (x := 0) (by decide) (TBof tbs_4 _ rfl) rfl ?_
  refine ev_istore_n (pc1 := 2) (L1 := [(2, .int 0), (0, .ref 29), (1, .ref 1)]) (by rw [ml_4]; decide) rfl (TBof tbs_4 _ rfl) rfl ?_
  refine ev_iconst (pc1 := 3) (x := 0) (by decide) (TBof tbs_4 _ rfl) rfl ?_
  refine ev_istore_n (pc1 := 4) (L1 := [(3, .int 0), (2, .int 0), (0, .ref 29), (1, .ref 1)]) (by rw [ml_4]; decide) rfl (TBof tbs_4 _ rfl) rfl ?_
  exact ev_le [2, 3, 1, 0] rfl rfl H
set_option maxRecDepth 100000 in
theorem R_X1_countLiftings_4 {d : Nat} {v2 v3 : Int32} {M : Im} {h : Hm} {D : Dm} {Q : Int32 → Im → Hm → Dm → Prop} (H : ((16 ≤ v3) → (Q v2 M h D)) ∧ (¬ (16 ≤ v3) → (vp_in v3 16 ∧ (vp_in v3 16 ∧ (1 ≤ d ∧ (∀ w2 : Int32, w2 = v2 + (if 0 < ((M 30 (v3.toNatClampNeg)) - (M 7 (v3.toNatClampNeg))) then ((M 30 (v3.toNatClampNeg)) - (M 7 (v3.toNatClampNeg))) else 0) → (EvI d nX1_countLiftings 4 [(0, .ref 29), (1, .ref 1), (2, .int w2), (3, .int (v3 + 1))] [] M h D Q))))))) : EvI d nX1_countLiftings 4 [(0, .ref 29), (1, .ref 1), (2, .int v2), (3, .int v3)] [] M h D Q := by
  refine ev_iload_n (pc1 := 5) rfl (TBof tbs_4 _ rfl) rfl ?_
  refine ev_bipush (pc1 := 7) (x := 16) (by decide) (TBof tbs_4 _ rfl) rfl ?_
  refine ev_icmp (pc1 := 10) (t := 36) (TBof tbs_4 _ rfl) (by decide) rfl (fun c1 => ?_) (fun c1 => ?_)
  · replace H := H.1 c1
    refine ev_iload_n (pc1 := 37) rfl (TBof tbs_4 _ rfl) rfl ?_
    exact ev_ireturn (TBof tbs_4 _ rfl) (retI_i rt_4) ⟨_, rfl, H⟩
  · replace H := H.2 c1
    refine ev_iload_n (pc1 := 11) rfl (TBof tbs_4 _ rfl) rfl ?_
    refine ev_iconst (pc1 := 12) (x := 0) (by decide) (TBof tbs_4 _ rfl) rfl ?_
    refine ev_aload_n (pc1 := 13) rfl rfl (TBof tbs_4 _ rfl) rfl ?_
    refine ev_getP (pc1 := 16) (ci := 1) (k := 2) (a := 30) (TBof tbs_4 _ rfl) rfl (fldof mo_4 fl_1_9) ltc_29 sh_29 nk_1_2 fp_1_2 (by decide) pf_29_2 ?_
    refine ev_iload_n (pc1 := 17) rfl (TBof tbs_4 _ rfl) rfl ?_
    refine ev_iaload (pc1 := 18) (n := 16) (TBof tbs_4 _ rfl) rfl ltc_30 sh_30 H.1 ?_
    replace H := H.2
    refine ev_aload_n (pc1 := 19) rfl rfl (TBof tbs_4 _ rfl) rfl ?_
    refine ev_getP (pc1 := 22) (ci := 2) (k := 12) (a := 7) (TBof tbs_4 _ rfl) rfl (fldof mo_4 fl_1_43) ltc_1 sh_1 nk_2_12 fp_2_12 (by decide) pf_1_12 ?_
    refine ev_iload_n (pc1 := 23) rfl (TBof tbs_4 _ rfl) rfl ?_
    refine ev_iaload (pc1 := 24) (n := 16) (TBof tbs_4 _ rfl) rfl ltc_7 sh_7 H.1 ?_
    replace H := H.2
    refine ev_isub (pc1 := 25) (TBof tbs_4 _ rfl) rfl ?_
    refine ev_max (pc1 := 28) (TBof tbs_4 _ rfl) rfl (lnkof mo_4 ln_1_48) (Nat.le_of_ble_eq_true rfl) H.1 ?_
    replace H := H.2
    refine ev_iadd (pc1 := 29) (TBof tbs_4 _ rfl) rfl ?_
    refine ev_istore_n (pc1 := 30) (L1 := [(2, .int (v2 + (if 0 < ((M 30 (v3.toNatClampNeg)) - (M 7 (v3.toNatClampNeg))) then ((M 30 (v3.toNatClampNeg)) - (M 7 (v3.toNatClampNeg))) else 0))), (0, .ref 29), (1, .ref 1), (3, .int v3)]) (by rw [ml_4]; decide) rfl (TBof tbs_4 _ rfl) rfl ?_
    generalize e2 : v2 + (if 0 < ((M 30 (v3.toNatClampNeg)) - (M 7 (v3.toNatClampNeg))) then ((M 30 (v3.toNatClampNeg)) - (M 7 (v3.toNatClampNeg))) else 0) = w2
    replace H := H w2 e2.symm
    refine ev_iinc (pc1 := 33) (n := 3) (c := 1) (x := v3) (cc := 1) (L1 := [(3, .int (v3 + 1)), (2, .int w2), (0, .ref 29), (1, .ref 1)]) rfl (by rw [ml_4]; decide) (by decide) rfl (TBof tbs_4 _ rfl) rfl ?_
    refine ev_goto (pc1 := 4) (TBof tbs_4 _ rfl) (by decide) ?_
    exact ev_le [2, 3, 1, 0] rfl rfl H
set_option maxRecDepth 100000 in
theorem R_X1_firstStep_0 {d : Nat} {M : Im} {h : Hm} {D : Dm} {Q : Int32 → Im → Hm → Dm → Prop} (H : CI d nX2_openableNow [.ref 1] M h D (fun x1 M1 h1 D1 => EvI d nX1_firstStep 12 [(0, .ref 29), (1, .ref 1), (2, .int ((M 29 0) &&& x1)), (3, .int 0)] [] M1 h1 D1 Q)) : EvI d nX1_firstStep 0 [(0, .ref 29), (1, .ref 1)] [] M h D Q := by
  refine ev_aload_n (pc1 := 1) rfl rfl (TBof tbs_5 _ rfl) rfl ?_
  refine ev_getI (pc1 := 4) (ci := 1) (k := 0) (TBof tbs_5 _ rfl) rfl (fldof mo_5 fl_1_15) ltc_29 sh_29 nk_1_0 fi_1_0 ?_
  refine ev_aload_n (pc1 := 5) rfl rfl (TBof tbs_5 _ rfl) rfl ?_
  refine ev_callvI (pc1 := 8) (as := []) (r := [.int (M 29 0)]) (TBof tbs_5 _ rfl) rfl (lnkof mo_5 ln_1_54) rfl na_33 ltc_1 (sh_1.trans (by rw [mo_33])) (Nat.le_of_ble_eq_true rfl) H (fun x1 M1 h1 D1 H => ?_)
  refine ev_iand (pc1 := 9) (TBof tbs_5 _ rfl) rfl ?_
  refine ev_istore_n (pc1 := 10) (L1 := [(2, .int ((M 29 0) &&& x1)), (0, .ref 29), (1, .ref 1)]) (by rw [ml_5]; decide) rfl (TBof tbs_5 _ rfl) rfl ?_
  refine ev_iconst (pc1 := 11) (x := 0) (by decide) (TBof tbs_5 _ rfl) rfl ?_
  refine ev_istore_n (pc1 := 12) (L1 := [(3, .int 0), (2, .int ((M 29 0) &&& x1)), (0, .ref 29), (1, .ref 1)]) (by rw [ml_5]; decide) rfl (TBof tbs_5 _ rfl) rfl ?_
  exact ev_le [2, 3, 1, 0] rfl rfl H
set_option maxRecDepth 100000 in
theorem R_X1_firstStep_12 {d : Nat} {v2 v3 : Int32} {M : Im} {h : Hm} {D : Dm} {Q : Int32 → Im → Hm → Dm → Prop} (H : ((16 ≤ v3) → (EvI d nX1_firstStep 39 [(0, .ref 29), (1, .ref 1), (2, .int v2), (3, .int 0)] [] M h D Q)) ∧ (¬ (16 ≤ v3) → (CI d nX3_isIn [.int v2, .int v3] M h D (fun x2 M2 h2 D2 => ((x2 = 0) → (EvI d nX1_firstStep 12 [(0, .ref 29), (1, .ref 1), (2, .int v2), (3, .int (v3 + 1))] [] M2 h2 D2 Q)) ∧ (¬ (x2 = 0) → (Q (100 + v3) M2 h2 D2)))))) : EvI d nX1_firstStep 12 [(0, .ref 29), (1, .ref 1), (2, .int v2), (3, .int v3)] [] M h D Q := by
  refine ev_iload_n (pc1 := 13) rfl (TBof tbs_5 _ rfl) rfl ?_
  refine ev_bipush (pc1 := 15) (x := 16) (by decide) (TBof tbs_5 _ rfl) rfl ?_
  refine ev_icmp (pc1 := 18) (t := 37) (TBof tbs_5 _ rfl) (by decide) rfl (fun c1 => ?_) (fun c1 => ?_)
  · replace H := H.1 c1
    refine ev_iconst (pc1 := 38) (x := 0) (by decide) (TBof tbs_5 _ rfl) rfl ?_
    refine ev_istore_n (pc1 := 39) (L1 := [(3, .int 0), (0, .ref 29), (1, .ref 1), (2, .int v2)]) (by rw [ml_5]; decide) rfl (TBof tbs_5 _ rfl) rfl ?_
    exact ev_le [1, 2, 3, 0] rfl rfl H
  · replace H := H.2 c1
    refine ev_iload_n (pc1 := 19) rfl (TBof tbs_5 _ rfl) rfl ?_
    refine ev_iload_n (pc1 := 20) rfl (TBof tbs_5 _ rfl) rfl ?_
    refine ev_callsI (pc1 := 23) (as := [.int v2, .int v3]) (r := []) (TBof tbs_5 _ rfl) rfl (lnkof mo_5 ln_1_58) (Or.inr rfl) rfl na_61 (Nat.le_of_ble_eq_true rfl) H (fun x2 M2 h2 D2 H => ?_)
    refine ev_if (pc1 := 26) (t := 31) (TBof tbs_5 _ rfl) (by decide) rfl (fun c3 => ?_) (fun c3 => ?_)
    · replace H := H.1 c3
      refine ev_iinc (pc1 := 34) (n := 3) (c := 1) (x := v3) (cc := 1) (L1 := [(3, .int (v3 + 1)), (0, .ref 29), (1, .ref 1), (2, .int v2)]) rfl (by rw [ml_5]; decide) (by decide) rfl (TBof tbs_5 _ rfl) rfl ?_
      refine ev_goto (pc1 := 12) (TBof tbs_5 _ rfl) (by decide) ?_
      exact ev_le [1, 2, 3, 0] rfl rfl H
    · replace H := H.2 c3
      refine ev_bipush (pc1 := 28) (x := 100) (by decide) (TBof tbs_5 _ rfl) rfl ?_
      refine ev_iload_n (pc1 := 29) rfl (TBof tbs_5 _ rfl) rfl ?_
      refine ev_iadd (pc1 := 30) (TBof tbs_5 _ rfl) rfl ?_
      exact ev_ireturn (TBof tbs_5 _ rfl) (retI_i rt_5) ⟨_, rfl, H⟩
set_option maxRecDepth 100000 in
theorem R_X1_firstStep_39 {d : Nat} {v2 v3 : Int32} {M : Im} {h : Hm} {D : Dm} {Q : Int32 → Im → Hm → Dm → Prop} (H : ((12 ≤ v3) → (EvI d nX1_firstStep 78 [(0, .ref 29), (1, .ref 1), (2, .int v2), (3, .int 0)] [] M h D Q)) ∧ (¬ (12 ≤ v3) → (CI d nX3_isIn [.int (M 29 1), .int v3] M h D (fun x2 M2 h2 D2 => ((x2 = 0) → (EvI d nX1_firstStep 39 [(0, .ref 29), (1, .ref 1), (2, .int v2), (3, .int (v3 + 1))] [] M2 h2 D2 Q)) ∧ (¬ (x2 = 0) → (CI d nX2_canTake [.ref 1, .int v3] M2 h2 D2 (fun x4 M4 h4 D4 => ((x4 = 0) → (EvI d nX1_firstStep 39 [(0, .ref 29), (1, .ref 1), (2, .int v2), (3, .int (v3 + 1))] [] M4 h4 D4 Q)) ∧ (¬ (x4 = 0) → (Q (200 + v3) M4 h4 D4))))))))) : EvI d nX1_firstStep 39 [(0, .ref 29), (1, .ref 1), (2, .int v2), (3, .int v3)] [] M h D Q := by
  refine ev_iload_n (pc1 := 40) rfl (TBof tbs_5 _ rfl) rfl ?_
  refine ev_bipush (pc1 := 42) (x := 12) (by decide) (TBof tbs_5 _ rfl) rfl ?_
  refine ev_icmp (pc1 := 45) (t := 76) (TBof tbs_5 _ rfl) (by decide) rfl (fun c1 => ?_) (fun c1 => ?_)
  · replace H := H.1 c1
    refine ev_iconst (pc1 := 77) (x := 0) (by decide) (TBof tbs_5 _ rfl) rfl ?_
    refine ev_istore_n (pc1 := 78) (L1 := [(3, .int 0), (0, .ref 29), (1, .ref 1), (2, .int v2)]) (by rw [ml_5]; decide) rfl (TBof tbs_5 _ rfl) rfl ?_
    exact ev_le [1, 2, 3, 0] rfl rfl H
  · replace H := H.2 c1
    refine ev_aload_n (pc1 := 46) rfl rfl (TBof tbs_5 _ rfl) rfl ?_
    refine ev_getI (pc1 := 49) (ci := 1) (k := 1) (TBof tbs_5 _ rfl) rfl (fldof mo_5 fl_1_19) ltc_29 sh_29 nk_1_1 fi_1_1 ?_
    refine ev_iload_n (pc1 := 50) rfl (TBof tbs_5 _ rfl) rfl ?_
    refine ev_callsI (pc1 := 53) (as := [.int (M 29 1), .int v3]) (r := []) (TBof tbs_5 _ rfl) rfl (lnkof mo_5 ln_1_58) (Or.inr rfl) rfl na_61 (Nat.le_of_ble_eq_true rfl) H (fun x2 M2 h2 D2 H => ?_)
    refine ev_if (pc1 := 56) (t := 70) (TBof tbs_5 _ rfl) (by decide) rfl (fun c3 => ?_) (fun c3 => ?_)
    · replace H := H.1 c3
      refine ev_iinc (pc1 := 73) (n := 3) (c := 1) (x := v3) (cc := 1) (L1 := [(3, .int (v3 + 1)), (0, .ref 29), (1, .ref 1), (2, .int v2)]) rfl (by rw [ml_5]; decide) (by decide) rfl (TBof tbs_5 _ rfl) rfl ?_
      refine ev_goto (pc1 := 39) (TBof tbs_5 _ rfl) (by decide) ?_
      exact ev_le [1, 2, 3, 0] rfl rfl H
    · replace H := H.2 c3
      refine ev_aload_n (pc1 := 57) rfl rfl (TBof tbs_5 _ rfl) rfl ?_
      refine ev_iload_n (pc1 := 58) rfl (TBof tbs_5 _ rfl) rfl ?_
      refine ev_callvI (pc1 := 61) (as := [.int v3]) (r := []) (TBof tbs_5 _ rfl) rfl (lnkof mo_5 ln_1_62) rfl na_26 ltc_1 (sh_1.trans (by rw [mo_26])) (Nat.le_of_ble_eq_true rfl) H (fun x4 M4 h4 D4 H => ?_)
      refine ev_if (pc1 := 64) (t := 70) (TBof tbs_5 _ rfl) (by decide) rfl (fun c5 => ?_) (fun c5 => ?_)
      · replace H := H.1 c5
        refine ev_iinc (pc1 := 73) (n := 3) (c := 1) (x := v3) (cc := 1) (L1 := [(3, .int (v3 + 1)), (0, .ref 29), (1, .ref 1), (2, .int v2)]) rfl (by rw [ml_5]; decide) (by decide) rfl (TBof tbs_5 _ rfl) rfl ?_
        refine ev_goto (pc1 := 39) (TBof tbs_5 _ rfl) (by decide) ?_
        exact ev_le [1, 2, 3, 0] rfl rfl H
      · replace H := H.2 c5
        refine ev_sipush (pc1 := 67) (x := 200) (by decide) (TBof tbs_5 _ rfl) rfl ?_
        refine ev_iload_n (pc1 := 68) rfl (TBof tbs_5 _ rfl) rfl ?_
        refine ev_iadd (pc1 := 69) (TBof tbs_5 _ rfl) rfl ?_
        exact ev_ireturn (TBof tbs_5 _ rfl) (retI_i rt_5) ⟨_, rfl, H⟩
set_option maxRecDepth 100000 in
theorem R_X1_firstStep_78 {d : Nat} {v2 v3 : Int32} {M : Im} {h : Hm} {D : Dm} {Q : Int32 → Im → Hm → Dm → Prop} (H : ((16 ≤ v3) → (Q (-5) M h D)) ∧ (¬ (16 ≤ v3) → (CI d nX1_isLiftingIn [.ref 29, .ref 1, .int v3] M h D (fun x2 M2 h2 D2 => ((x2 = 0) → (EvI d nX1_firstStep 78 [(0, .ref 29), (1, .ref 1), (2, .int v2), (3, .int (v3 + 1))] [] M2 h2 D2 Q)) ∧ (¬ (x2 = 0) → (CI d nX2_canLift [.ref 1, .int v3] M2 h2 D2 (fun x4 M4 h4 D4 => ((x4 = 0) → (EvI d nX1_firstStep 78 [(0, .ref 29), (1, .ref 1), (2, .int v2), (3, .int (v3 + 1))] [] M4 h4 D4 Q)) ∧ (¬ (x4 = 0) → (Q (300 + v3) M4 h4 D4))))))))) : EvI d nX1_firstStep 78 [(0, .ref 29), (1, .ref 1), (2, .int v2), (3, .int v3)] [] M h D Q := by
  refine ev_iload_n (pc1 := 79) rfl (TBof tbs_5 _ rfl) rfl ?_
  refine ev_bipush (pc1 := 81) (x := 16) (by decide) (TBof tbs_5 _ rfl) rfl ?_
  refine ev_icmp (pc1 := 84) (t := 113) (TBof tbs_5 _ rfl) (by decide) rfl (fun c1 => ?_) (fun c1 => ?_)
  · replace H := H.1 c1
    refine ev_bipush (pc1 := 115) (x := (-5)) (by decide) (TBof tbs_5 _ rfl) rfl ?_
    exact ev_ireturn (TBof tbs_5 _ rfl) (retI_i rt_5) ⟨_, rfl, H⟩
  · replace H := H.2 c1
    refine ev_aload_n (pc1 := 85) rfl rfl (TBof tbs_5 _ rfl) rfl ?_
    refine ev_aload_n (pc1 := 86) rfl rfl (TBof tbs_5 _ rfl) rfl ?_
    refine ev_iload_n (pc1 := 87) rfl (TBof tbs_5 _ rfl) rfl ?_
    refine ev_callvI (pc1 := 90) (as := [.ref 1, .int v3]) (r := []) (TBof tbs_5 _ rfl) rfl (lnkof mo_5 ln_1_66) rfl na_6 ltc_29 (sh_29.trans (by rw [mo_6])) (Nat.le_of_ble_eq_true rfl) H (fun x2 M2 h2 D2 H => ?_)
    refine ev_if (pc1 := 93) (t := 107) (TBof tbs_5 _ rfl) (by decide) rfl (fun c3 => ?_) (fun c3 => ?_)
    · replace H := H.1 c3
      refine ev_iinc (pc1 := 110) (n := 3) (c := 1) (x := v3) (cc := 1) (L1 := [(3, .int (v3 + 1)), (0, .ref 29), (1, .ref 1), (2, .int v2)]) rfl (by rw [ml_5]; decide) (by decide) rfl (TBof tbs_5 _ rfl) rfl ?_
      refine ev_goto (pc1 := 78) (TBof tbs_5 _ rfl) (by decide) ?_
      exact ev_le [1, 2, 3, 0] rfl rfl H
    · replace H := H.2 c3
      refine ev_aload_n (pc1 := 94) rfl rfl (TBof tbs_5 _ rfl) rfl ?_
      refine ev_iload_n (pc1 := 95) rfl (TBof tbs_5 _ rfl) rfl ?_
      refine ev_callvI (pc1 := 98) (as := [.int v3]) (r := []) (TBof tbs_5 _ rfl) rfl (lnkof mo_5 ln_1_70) rfl na_25 ltc_1 (sh_1.trans (by rw [mo_25])) (Nat.le_of_ble_eq_true rfl) H (fun x4 M4 h4 D4 H => ?_)
      refine ev_if (pc1 := 101) (t := 107) (TBof tbs_5 _ rfl) (by decide) rfl (fun c5 => ?_) (fun c5 => ?_)
      · replace H := H.1 c5
        refine ev_iinc (pc1 := 110) (n := 3) (c := 1) (x := v3) (cc := 1) (L1 := [(3, .int (v3 + 1)), (0, .ref 29), (1, .ref 1), (2, .int v2)]) rfl (by rw [ml_5]; decide) (by decide) rfl (TBof tbs_5 _ rfl) rfl ?_
        refine ev_goto (pc1 := 78) (TBof tbs_5 _ rfl) (by decide) ?_
        exact ev_le [1, 2, 3, 0] rfl rfl H
      · replace H := H.2 c5
        refine ev_sipush (pc1 := 104) (x := 300) (by decide) (TBof tbs_5 _ rfl) rfl ?_
        refine ev_iload_n (pc1 := 105) rfl (TBof tbs_5 _ rfl) rfl ?_
        refine ev_iadd (pc1 := 106) (TBof tbs_5 _ rfl) rfl ?_
        exact ev_ireturn (TBof tbs_5 _ rfl) (retI_i rt_5) ⟨_, rfl, H⟩
set_option maxRecDepth 100000 in
theorem R_X1_isLiftingIn_0 {d : Nat} {v2 : Int32} {M : Im} {h : Hm} {D : Dm} {Q : Int32 → Im → Hm → Dm → Prop} (H : vp_in v2 16 ∧ (vp_in v2 16 ∧ ((((M 30 (v2.toNatClampNeg)) ≤ (M 7 (v2.toNatClampNeg))) → (Q 0 M h D)) ∧ (¬ ((M 30 (v2.toNatClampNeg)) ≤ (M 7 (v2.toNatClampNeg))) → (Q 1 M h D))))) : EvI d nX1_isLiftingIn 0 [(0, .ref 29), (1, .ref 1), (2, .int v2)] [] M h D Q := by
  refine ev_aload_n (pc1 := 1) rfl rfl (TBof tbs_6 _ rfl) rfl ?_
  refine ev_getP (pc1 := 4) (ci := 1) (k := 2) (a := 30) (TBof tbs_6 _ rfl) rfl (fldof mo_6 fl_1_9) ltc_29 sh_29 nk_1_2 fp_1_2 (by decide) pf_29_2 ?_
  refine ev_iload_n (pc1 := 5) rfl (TBof tbs_6 _ rfl) rfl ?_
  refine ev_iaload (pc1 := 6) (n := 16) (TBof tbs_6 _ rfl) rfl ltc_30 sh_30 H.1 ?_
  replace H := H.2
  refine ev_aload_n (pc1 := 7) rfl rfl (TBof tbs_6 _ rfl) rfl ?_
  refine ev_getP (pc1 := 10) (ci := 2) (k := 12) (a := 7) (TBof tbs_6 _ rfl) rfl (fldof mo_6 fl_1_43) ltc_1 sh_1 nk_2_12 fp_2_12 (by decide) pf_1_12 ?_
  refine ev_iload_n (pc1 := 11) rfl (TBof tbs_6 _ rfl) rfl ?_
  refine ev_iaload (pc1 := 12) (n := 16) (TBof tbs_6 _ rfl) rfl ltc_7 sh_7 H.1 ?_
  replace H := H.2
  refine ev_icmp (pc1 := 15) (t := 19) (TBof tbs_6 _ rfl) (by decide) rfl (fun c1 => ?_) (fun c1 => ?_)
  · replace H := H.1 c1
    refine ev_iconst (pc1 := 20) (x := 0) (by decide) (TBof tbs_6 _ rfl) rfl ?_
    exact ev_ireturn (TBof tbs_6 _ rfl) (retI_z rt_6 (Or.inl rfl)) ⟨_, rfl, H⟩
  · replace H := H.2 c1
    refine ev_iconst (pc1 := 16) (x := 1) (by decide) (TBof tbs_6 _ rfl) rfl ?_
    refine ev_goto (pc1 := 20) (TBof tbs_6 _ rfl) (by decide) ?_
    exact ev_ireturn (TBof tbs_6 _ rfl) (retI_z rt_6 (Or.inr rfl)) ⟨_, rfl, H⟩
set_option maxRecDepth 100000 in
theorem R_X1_addNeedsOfAll_0 {d : Nat} {M : Im} {h : Hm} {D : Dm} {Q : Im → Hm → Dm → Prop} (H : EvV d nX1_addNeedsOfAll 2 [(0, .ref 29), (1, .ref 1), (2, .int 0)] [] M h D Q) : EvV d nX1_addNeedsOfAll 0 [(0, .ref 29), (1, .ref 1)] [] M h D Q := by
  refine ev_iconst (pc1 := 1) (x := 0) (by decide) (TBof tbs_7 _ rfl) rfl ?_
  refine ev_istore_n (pc1 := 2) (L1 := [(2, .int 0), (0, .ref 29), (1, .ref 1)]) (by rw [ml_7]; decide) rfl (TBof tbs_7 _ rfl) rfl ?_
  exact ev_le [1, 2, 0] rfl rfl H
set_option maxRecDepth 100000 in
theorem R_X1_addNeedsOfAll_2 {d : Nat} {v2 : Int32} {M : Im} {h : Hm} {D : Dm} {Q : Im → Hm → Dm → Prop} (H : ((16 ≤ v2) → (EvV d nX1_addNeedsOfAll 55 [(0, .ref 29), (1, .ref 1), (2, .int 0)] [] M h D Q)) ∧ (¬ (16 ≤ v2) → (CI d nX3_isIn [.int (M 29 0), .int v2] M h D (fun x2 M2 h2 D2 => ((x2 = 0) → (EvV d nX1_addNeedsOfAll 25 [(0, .ref 29), (1, .ref 1), (2, .int v2)] [] M2 h2 D2 Q)) ∧ (¬ (x2 = 0) → (CV d nX1_addNeedsOfOpening [.ref 29, .ref 1, .int v2] M2 h2 D2 (fun M4 h4 D4 => EvV d nX1_addNeedsOfAll 25 [(0, .ref 29), (1, .ref 1), (2, .int v2)] [] M4 h4 D4 Q))))))) : EvV d nX1_addNeedsOfAll 2 [(0, .ref 29), (1, .ref 1), (2, .int v2)] [] M h D Q := by
  refine ev_iload_n (pc1 := 3) rfl (TBof tbs_7 _ rfl) rfl ?_
  refine ev_bipush (pc1 := 5) (x := 16) (by decide) (TBof tbs_7 _ rfl) rfl ?_
  refine ev_icmp (pc1 := 8) (t := 53) (TBof tbs_7 _ rfl) (by decide) rfl (fun c1 => ?_) (fun c1 => ?_)
  · replace H := H.1 c1
    refine ev_iconst (pc1 := 54) (x := 0) (by decide) (TBof tbs_7 _ rfl) rfl ?_
    refine ev_istore_n (pc1 := 55) (L1 := [(2, .int 0), (0, .ref 29), (1, .ref 1)]) (by rw [ml_7]; decide) rfl (TBof tbs_7 _ rfl) rfl ?_
    exact ev_le [1, 2, 0] rfl rfl H
  · replace H := H.2 c1
    refine ev_aload_n (pc1 := 9) rfl rfl (TBof tbs_7 _ rfl) rfl ?_
    refine ev_getI (pc1 := 12) (ci := 1) (k := 0) (TBof tbs_7 _ rfl) rfl (fldof mo_7 fl_1_15) ltc_29 sh_29 nk_1_0 fi_1_0 ?_
    refine ev_iload_n (pc1 := 13) rfl (TBof tbs_7 _ rfl) rfl ?_
    refine ev_callsI (pc1 := 16) (as := [.int (M 29 0), .int v2]) (r := []) (TBof tbs_7 _ rfl) rfl (lnkof mo_7 ln_1_58) (Or.inr rfl) rfl na_61 (Nat.le_of_ble_eq_true rfl) H (fun x2 M2 h2 D2 H => ?_)
    refine ev_if (pc1 := 19) (t := 25) (TBof tbs_7 _ rfl) (by decide) rfl (fun c3 => ?_) (fun c3 => ?_)
    · replace H := H.1 c3
      exact ev_le [0, 1, 2] rfl rfl H
    · replace H := H.2 c3
      refine ev_aload_n (pc1 := 20) rfl rfl (TBof tbs_7 _ rfl) rfl ?_
      refine ev_aload_n (pc1 := 21) rfl rfl (TBof tbs_7 _ rfl) rfl ?_
      refine ev_iload_n (pc1 := 22) rfl (TBof tbs_7 _ rfl) rfl ?_
      refine ev_callvV (pc1 := 25) (as := [.ref 1, .int v2]) (r := []) (TBof tbs_7 _ rfl) rfl (lnkof mo_7 ln_1_73) rfl na_9 ltc_29 (sh_29.trans (by rw [mo_9])) (Nat.le_of_ble_eq_true rfl) H (fun M4 h4 D4 H => ?_)
      exact ev_le [0, 1, 2] rfl rfl H
set_option maxRecDepth 100000 in
theorem R_X1_addNeedsOfAll_25 {d : Nat} {v2 : Int32} {M : Im} {h : Hm} {D : Dm} {Q : Im → Hm → Dm → Prop} (H : CI d nX1_isLiftingIn [.ref 29, .ref 1, .int v2] M h D (fun x1 M1 h1 D1 => ((x1 = 0) → (EvV d nX1_addNeedsOfAll 2 [(0, .ref 29), (1, .ref 1), (2, .int (v2 + 1))] [] M1 h1 D1 Q)) ∧ (¬ (x1 = 0) → (CV d nX1_addWayInto [.ref 29, .ref 1, .int v2] M1 h1 D1 (fun M3 h3 D3 => CV d nX1_addTaking [.ref 29, .ref 1, .int 10] M3 h3 D3 (fun M4 h4 D4 => EvV d nX1_addNeedsOfAll 2 [(0, .ref 29), (1, .ref 1), (2, .int (v2 + 1))] [] M4 h4 D4 Q)))))) : EvV d nX1_addNeedsOfAll 25 [(0, .ref 29), (1, .ref 1), (2, .int v2)] [] M h D Q := by
  refine ev_aload_n (pc1 := 26) rfl rfl (TBof tbs_7 _ rfl) rfl ?_
  refine ev_aload_n (pc1 := 27) rfl rfl (TBof tbs_7 _ rfl) rfl ?_
  refine ev_iload_n (pc1 := 28) rfl (TBof tbs_7 _ rfl) rfl ?_
  refine ev_callvI (pc1 := 31) (as := [.ref 1, .int v2]) (r := []) (TBof tbs_7 _ rfl) rfl (lnkof mo_7 ln_1_66) rfl na_6 ltc_29 (sh_29.trans (by rw [mo_6])) (Nat.le_of_ble_eq_true rfl) H (fun x1 M1 h1 D1 H => ?_)
  refine ev_if (pc1 := 34) (t := 47) (TBof tbs_7 _ rfl) (by decide) rfl (fun c2 => ?_) (fun c2 => ?_)
  · replace H := H.1 c2
    refine ev_iinc (pc1 := 50) (n := 2) (c := 1) (x := v2) (cc := 1) (L1 := [(2, .int (v2 + 1)), (0, .ref 29), (1, .ref 1)]) rfl (by rw [ml_7]; decide) (by decide) rfl (TBof tbs_7 _ rfl) rfl ?_
    refine ev_goto (pc1 := 2) (TBof tbs_7 _ rfl) (by decide) ?_
    exact ev_le [1, 2, 0] rfl rfl H
  · replace H := H.2 c2
    refine ev_aload_n (pc1 := 35) rfl rfl (TBof tbs_7 _ rfl) rfl ?_
    refine ev_aload_n (pc1 := 36) rfl rfl (TBof tbs_7 _ rfl) rfl ?_
    refine ev_iload_n (pc1 := 37) rfl (TBof tbs_7 _ rfl) rfl ?_
    refine ev_callvV (pc1 := 40) (as := [.ref 1, .int v2]) (r := []) (TBof tbs_7 _ rfl) rfl (lnkof mo_7 ln_1_22) rfl na_8 ltc_29 (sh_29.trans (by rw [mo_8])) (Nat.le_of_ble_eq_true rfl) H (fun M3 h3 D3 H => ?_)
    refine ev_aload_n (pc1 := 41) rfl rfl (TBof tbs_7 _ rfl) rfl ?_
    refine ev_aload_n (pc1 := 42) rfl rfl (TBof tbs_7 _ rfl) rfl ?_
    refine ev_bipush (pc1 := 44) (x := 10) (by decide) (TBof tbs_7 _ rfl) rfl ?_
    refine ev_callvV (pc1 := 47) (as := [.ref 1, .int 10]) (r := []) (TBof tbs_7 _ rfl) rfl (lnkof mo_7 ln_1_76) rfl na_12 ltc_29 (sh_29.trans (by rw [mo_12])) (Nat.le_of_ble_eq_true rfl) H (fun M4 h4 D4 H => ?_)
    refine ev_iinc (pc1 := 50) (n := 2) (c := 1) (x := v2) (cc := 1) (L1 := [(2, .int (v2 + 1)), (0, .ref 29), (1, .ref 1)]) rfl (by rw [ml_7]; decide) (by decide) rfl (TBof tbs_7 _ rfl) rfl ?_
    refine ev_goto (pc1 := 2) (TBof tbs_7 _ rfl) (by decide) ?_
    exact ev_le [1, 2, 0] rfl rfl H
set_option maxRecDepth 100000 in
theorem R_X1_addNeedsOfAll_55 {d : Nat} {v2 : Int32} {M : Im} {h : Hm} {D : Dm} {Q : Im → Hm → Dm → Prop} (H : ((12 ≤ v2) → (Q M h D)) ∧ (¬ (12 ≤ v2) → (CI d nX3_isIn [.int (M 29 1), .int v2] M h D (fun x2 M2 h2 D2 => ((x2 = 0) → (EvV d nX1_addNeedsOfAll 55 [(0, .ref 29), (1, .ref 1), (2, .int (v2 + 1))] [] M2 h2 D2 Q)) ∧ (¬ (x2 = 0) → (CV d nX1_addNeedsOfTaking [.ref 29, .ref 1, .int v2] M2 h2 D2 (fun M4 h4 D4 => EvV d nX1_addNeedsOfAll 55 [(0, .ref 29), (1, .ref 1), (2, .int (v2 + 1))] [] M4 h4 D4 Q))))))) : EvV d nX1_addNeedsOfAll 55 [(0, .ref 29), (1, .ref 1), (2, .int v2)] [] M h D Q := by
  refine ev_iload_n (pc1 := 56) rfl (TBof tbs_7 _ rfl) rfl ?_
  refine ev_bipush (pc1 := 58) (x := 12) (by decide) (TBof tbs_7 _ rfl) rfl ?_
  refine ev_icmp (pc1 := 61) (t := 84) (TBof tbs_7 _ rfl) (by decide) rfl (fun c1 => ?_) (fun c1 => ?_)
  · replace H := H.1 c1
    exact ev_return (TBof tbs_7 _ rfl) rt_7 ⟨rfl, H⟩
  · replace H := H.2 c1
    refine ev_aload_n (pc1 := 62) rfl rfl (TBof tbs_7 _ rfl) rfl ?_
    refine ev_getI (pc1 := 65) (ci := 1) (k := 1) (TBof tbs_7 _ rfl) rfl (fldof mo_7 fl_1_19) ltc_29 sh_29 nk_1_1 fi_1_1 ?_
    refine ev_iload_n (pc1 := 66) rfl (TBof tbs_7 _ rfl) rfl ?_
    refine ev_callsI (pc1 := 69) (as := [.int (M 29 1), .int v2]) (r := []) (TBof tbs_7 _ rfl) rfl (lnkof mo_7 ln_1_58) (Or.inr rfl) rfl na_61 (Nat.le_of_ble_eq_true rfl) H (fun x2 M2 h2 D2 H => ?_)
    refine ev_if (pc1 := 72) (t := 78) (TBof tbs_7 _ rfl) (by decide) rfl (fun c3 => ?_) (fun c3 => ?_)
    · replace H := H.1 c3
      refine ev_iinc (pc1 := 81) (n := 2) (c := 1) (x := v2) (cc := 1) (L1 := [(2, .int (v2 + 1)), (0, .ref 29), (1, .ref 1)]) rfl (by rw [ml_7]; decide) (by decide) rfl (TBof tbs_7 _ rfl) rfl ?_
      refine ev_goto (pc1 := 55) (TBof tbs_7 _ rfl) (by decide) ?_
      exact ev_le [1, 2, 0] rfl rfl H
    · replace H := H.2 c3
      refine ev_aload_n (pc1 := 73) rfl rfl (TBof tbs_7 _ rfl) rfl ?_
      refine ev_aload_n (pc1 := 74) rfl rfl (TBof tbs_7 _ rfl) rfl ?_
      refine ev_iload_n (pc1 := 75) rfl (TBof tbs_7 _ rfl) rfl ?_
      refine ev_callvV (pc1 := 78) (as := [.ref 1, .int v2]) (r := []) (TBof tbs_7 _ rfl) rfl (lnkof mo_7 ln_1_79) rfl na_10 ltc_29 (sh_29.trans (by rw [mo_10])) (Nat.le_of_ble_eq_true rfl) H (fun M4 h4 D4 H => ?_)
      refine ev_iinc (pc1 := 81) (n := 2) (c := 1) (x := v2) (cc := 1) (L1 := [(2, .int (v2 + 1)), (0, .ref 29), (1, .ref 1)]) rfl (by rw [ml_7]; decide) (by decide) rfl (TBof tbs_7 _ rfl) rfl ?_
      refine ev_goto (pc1 := 55) (TBof tbs_7 _ rfl) (by decide) ?_
      exact ev_le [1, 2, 0] rfl rfl H
set_option maxRecDepth 100000 in
theorem R_X1_addWayInto_0 {d : Nat} {v2 : Int32} {M : Im} {h : Hm} {D : Dm} {Q : Im → Hm → Dm → Prop} (H : EvV d nX1_addWayInto 5 [(0, .ref 29), (1, .ref 1), (2, .int v2), (3, .int v2), (4, .int 0)] [] M h D Q) : EvV d nX1_addWayInto 0 [(0, .ref 29), (1, .ref 1), (2, .int v2)] [] M h D Q := by
  refine ev_iload_n (pc1 := 1) rfl (TBof tbs_8 _ rfl) rfl ?_
  refine ev_istore_n (pc1 := 2) (L1 := [(3, .int v2), (0, .ref 29), (1, .ref 1), (2, .int v2)]) (by rw [ml_8]; decide) rfl (TBof tbs_8 _ rfl) rfl ?_
  refine ev_iconst (pc1 := 3) (x := 0) (by decide) (TBof tbs_8 _ rfl) rfl ?_
  refine ev_istore (pc1 := 5) (L1 := [(4, .int 0), (3, .int v2), (0, .ref 29), (1, .ref 1), (2, .int v2)]) (by rw [ml_8]; decide) rfl (TBof tbs_8 _ rfl) rfl ?_
  exact ev_le [2, 3, 4, 1, 0] rfl rfl H
set_option maxRecDepth 100000 in
theorem R_X1_addWayInto_5 {d : Nat} {v2 v3 v4 : Int32} {M : Im} {h : Hm} {D : Dm} {Q : Im → Hm → Dm → Prop} (H : ((16 < v4) → (Q M h D)) ∧ (¬ (16 < v4) → (CI d nX2_isThere [.ref 1, .int v3] M h D (fun x2 M2 h2 D2 => ((x2 = 0) → (Q M2 h2 D2)) ∧ (¬ (x2 = 0) → (CV d nX1_addOpening [.ref 29, .ref 1, .int v3] M2 h2 D2 (fun M4 h4 D4 => vp_in v3 16 ∧ (EvV d nX1_addWayInto 5 [(0, .ref 29), (1, .ref 1), (2, .int v2), (3, .int (M4 2 (v3.toNatClampNeg))), (4, .int (v4 + 1))] [] M4 h4 D4 Q)))))))) : EvV d nX1_addWayInto 5 [(0, .ref 29), (1, .ref 1), (2, .int v2), (3, .int v3), (4, .int v4)] [] M h D Q := by
  refine ev_iload (pc1 := 7) rfl (TBof tbs_8 _ rfl) rfl ?_
  refine ev_bipush (pc1 := 9) (x := 16) (by decide) (TBof tbs_8 _ rfl) rfl ?_
  refine ev_icmp (pc1 := 12) (t := 39) (TBof tbs_8 _ rfl) (by decide) rfl (fun c1 => ?_) (fun c1 => ?_)
  · replace H := H.1 c1
    exact ev_return (TBof tbs_8 _ rfl) rt_8 ⟨rfl, H⟩
  · replace H := H.2 c1
    refine ev_aload_n (pc1 := 13) rfl rfl (TBof tbs_8 _ rfl) rfl ?_
    refine ev_iload_n (pc1 := 14) rfl (TBof tbs_8 _ rfl) rfl ?_
    refine ev_callvI (pc1 := 17) (as := [.int v3]) (r := []) (TBof tbs_8 _ rfl) rfl (lnkof mo_8 ln_1_82) rfl na_18 ltc_1 (sh_1.trans (by rw [mo_18])) (Nat.le_of_ble_eq_true rfl) H (fun x2 M2 h2 D2 H => ?_)
    refine ev_if (pc1 := 20) (t := 39) (TBof tbs_8 _ rfl) (by decide) rfl (fun c3 => ?_) (fun c3 => ?_)
    · replace H := H.1 c3
      exact ev_return (TBof tbs_8 _ rfl) rt_8 ⟨rfl, H⟩
    · replace H := H.2 c3
      refine ev_aload_n (pc1 := 21) rfl rfl (TBof tbs_8 _ rfl) rfl ?_
      refine ev_aload_n (pc1 := 22) rfl rfl (TBof tbs_8 _ rfl) rfl ?_
      refine ev_iload_n (pc1 := 23) rfl (TBof tbs_8 _ rfl) rfl ?_
      refine ev_callvV (pc1 := 26) (as := [.ref 1, .int v3]) (r := []) (TBof tbs_8 _ rfl) rfl (lnkof mo_8 ln_1_85) rfl na_11 ltc_29 (sh_29.trans (by rw [mo_11])) (Nat.le_of_ble_eq_true rfl) H (fun M4 h4 D4 H => ?_)
      refine ev_aload_n (pc1 := 27) rfl rfl (TBof tbs_8 _ rfl) rfl ?_
      refine ev_getP (pc1 := 30) (ci := 2) (k := 7) (a := 2) (TBof tbs_8 _ rfl) rfl (fldof mo_8 fl_1_88) ltc_1 sh_1 nk_2_7 fp_2_7 (by decide) pf_1_7 ?_
      refine ev_iload_n (pc1 := 31) rfl (TBof tbs_8 _ rfl) rfl ?_
      refine ev_iaload (pc1 := 32) (n := 16) (TBof tbs_8 _ rfl) rfl ltc_2 sh_2 H.1 ?_
      replace H := H.2
      refine ev_istore_n (pc1 := 33) (L1 := [(3, .int (M4 2 (v3.toNatClampNeg))), (0, .ref 29), (1, .ref 1), (2, .int v2), (4, .int v4)]) (by rw [ml_8]; decide) rfl (TBof tbs_8 _ rfl) rfl ?_
      refine ev_iinc (pc1 := 36) (n := 4) (c := 1) (x := v4) (cc := 1) (L1 := [(4, .int (v4 + 1)), (3, .int (M4 2 (v3.toNatClampNeg))), (0, .ref 29), (1, .ref 1), (2, .int v2)]) rfl (by rw [ml_8]; decide) (by decide) rfl (TBof tbs_8 _ rfl) rfl ?_
      refine ev_goto (pc1 := 5) (TBof tbs_8 _ rfl) (by decide) ?_
      exact ev_le [2, 3, 4, 1, 0] rfl rfl H
set_option maxRecDepth 100000 in
theorem R_X1_addNeedsOfOpening_0 {d : Nat} {v2 : Int32} {M : Im} {h : Hm} {D : Dm} {Q : Im → Hm → Dm → Prop} (H : CV d nX1_addWayInto [.ref 29, .ref 1, .int v2] M h D (fun M1 h1 D1 => vp_in v2 16 ∧ (((¬ ((M1 3 (v2.toNatClampNeg)) = 1)) → (EvV d nX1_addNeedsOfOpening 27 [(0, .ref 29), (1, .ref 1), (2, .int v2)] [] M1 h1 D1 Q)) ∧ (¬ (¬ ((M1 3 (v2.toNatClampNeg)) = 1)) → (vp_in v2 16 ∧ (CV d nX1_addTaking [.ref 29, .ref 1, .int (M1 4 (v2.toNatClampNeg))] M1 h1 D1 (fun M3 h3 D3 => EvV d nX1_addNeedsOfOpening 27 [(0, .ref 29), (1, .ref 1), (2, .int v2)] [] M3 h3 D3 Q))))))) : EvV d nX1_addNeedsOfOpening 0 [(0, .ref 29), (1, .ref 1), (2, .int v2)] [] M h D Q := by
  refine ev_aload_n (pc1 := 1) rfl rfl (TBof tbs_9 _ rfl) rfl ?_
  refine ev_aload_n (pc1 := 2) rfl rfl (TBof tbs_9 _ rfl) rfl ?_
  refine ev_iload_n (pc1 := 3) rfl (TBof tbs_9 _ rfl) rfl ?_
  refine ev_callvV (pc1 := 6) (as := [.ref 1, .int v2]) (r := []) (TBof tbs_9 _ rfl) rfl (lnkof mo_9 ln_1_22) rfl na_8 ltc_29 (sh_29.trans (by rw [mo_8])) (Nat.le_of_ble_eq_true rfl) H (fun M1 h1 D1 H => ?_)
  refine ev_aload_n (pc1 := 7) rfl rfl (TBof tbs_9 _ rfl) rfl ?_
  refine ev_getP (pc1 := 10) (ci := 2) (k := 8) (a := 3) (TBof tbs_9 _ rfl) rfl (fldof mo_9 fl_1_91) ltc_1 sh_1 nk_2_8 fp_2_8 (by decide) pf_1_8 ?_
  refine ev_iload_n (pc1 := 11) rfl (TBof tbs_9 _ rfl) rfl ?_
  refine ev_iaload (pc1 := 12) (n := 16) (TBof tbs_9 _ rfl) rfl ltc_3 sh_3 H.1 ?_
  replace H := H.2
  refine ev_iconst (pc1 := 13) (x := 1) (by decide) (TBof tbs_9 _ rfl) rfl ?_
  refine ev_icmp (pc1 := 16) (t := 27) (TBof tbs_9 _ rfl) (by decide) rfl (fun c2 => ?_) (fun c2 => ?_)
  · replace H := H.1 c2
    exact ev_le [0, 1, 2] rfl rfl H
  · replace H := H.2 c2
    refine ev_aload_n (pc1 := 17) rfl rfl (TBof tbs_9 _ rfl) rfl ?_
    refine ev_aload_n (pc1 := 18) rfl rfl (TBof tbs_9 _ rfl) rfl ?_
    refine ev_aload_n (pc1 := 19) rfl rfl (TBof tbs_9 _ rfl) rfl ?_
    refine ev_getP (pc1 := 22) (ci := 2) (k := 9) (a := 4) (TBof tbs_9 _ rfl) rfl (fldof mo_9 fl_1_94) ltc_1 sh_1 nk_2_9 fp_2_9 (by decide) pf_1_9 ?_
    refine ev_iload_n (pc1 := 23) rfl (TBof tbs_9 _ rfl) rfl ?_
    refine ev_iaload (pc1 := 24) (n := 16) (TBof tbs_9 _ rfl) rfl ltc_4 sh_4 H.1 ?_
    replace H := H.2
    refine ev_callvV (pc1 := 27) (as := [.ref 1, .int (M1 4 (v2.toNatClampNeg))]) (r := []) (TBof tbs_9 _ rfl) rfl (lnkof mo_9 ln_1_76) rfl na_12 ltc_29 (sh_29.trans (by rw [mo_12])) (Nat.le_of_ble_eq_true rfl) H (fun M3 h3 D3 H => ?_)
    exact ev_le [0, 1, 2] rfl rfl H
set_option maxRecDepth 100000 in
theorem R_X1_addNeedsOfOpening_27 {d : Nat} {v2 : Int32} {M : Im} {h : Hm} {D : Dm} {Q : Im → Hm → Dm → Prop} (H : vp_in v2 16 ∧ (((¬ ((M 3 (v2.toNatClampNeg)) = 2)) → (Q M h D)) ∧ (¬ (¬ ((M 3 (v2.toNatClampNeg)) = 2)) → (vp_in v2 16 ∧ (CV d nX1_addOpening [.ref 29, .ref 1, .int (M 4 (v2.toNatClampNeg))] M h D (fun M2 h2 D2 => Q M2 h2 D2)))))) : EvV d nX1_addNeedsOfOpening 27 [(0, .ref 29), (1, .ref 1), (2, .int v2)] [] M h D Q := by
  refine ev_aload_n (pc1 := 28) rfl rfl (TBof tbs_9 _ rfl) rfl ?_
  refine ev_getP (pc1 := 31) (ci := 2) (k := 8) (a := 3) (TBof tbs_9 _ rfl) rfl (fldof mo_9 fl_1_91) ltc_1 sh_1 nk_2_8 fp_2_8 (by decide) pf_1_8 ?_
  refine ev_iload_n (pc1 := 32) rfl (TBof tbs_9 _ rfl) rfl ?_
  refine ev_iaload (pc1 := 33) (n := 16) (TBof tbs_9 _ rfl) rfl ltc_3 sh_3 H.1 ?_
  replace H := H.2
  refine ev_iconst (pc1 := 34) (x := 2) (by decide) (TBof tbs_9 _ rfl) rfl ?_
  refine ev_icmp (pc1 := 37) (t := 48) (TBof tbs_9 _ rfl) (by decide) rfl (fun c1 => ?_) (fun c1 => ?_)
  · replace H := H.1 c1
    exact ev_return (TBof tbs_9 _ rfl) rt_9 ⟨rfl, H⟩
  · replace H := H.2 c1
    refine ev_aload_n (pc1 := 38) rfl rfl (TBof tbs_9 _ rfl) rfl ?_
    refine ev_aload_n (pc1 := 39) rfl rfl (TBof tbs_9 _ rfl) rfl ?_
    refine ev_aload_n (pc1 := 40) rfl rfl (TBof tbs_9 _ rfl) rfl ?_
    refine ev_getP (pc1 := 43) (ci := 2) (k := 9) (a := 4) (TBof tbs_9 _ rfl) rfl (fldof mo_9 fl_1_94) ltc_1 sh_1 nk_2_9 fp_2_9 (by decide) pf_1_9 ?_
    refine ev_iload_n (pc1 := 44) rfl (TBof tbs_9 _ rfl) rfl ?_
    refine ev_iaload (pc1 := 45) (n := 16) (TBof tbs_9 _ rfl) rfl ltc_4 sh_4 H.1 ?_
    replace H := H.2
    refine ev_callvV (pc1 := 48) (as := [.ref 1, .int (M 4 (v2.toNatClampNeg))]) (r := []) (TBof tbs_9 _ rfl) rfl (lnkof mo_9 ln_1_85) rfl na_11 ltc_29 (sh_29.trans (by rw [mo_11])) (Nat.le_of_ble_eq_true rfl) H (fun M2 h2 D2 H => ?_)
    exact ev_return (TBof tbs_9 _ rfl) rt_9 ⟨rfl, H⟩
set_option maxRecDepth 100000 in
theorem R_X1_addNeedsOfTaking_0 {d : Nat} {v2 : Int32} {M : Im} {h : Hm} {D : Dm} {Q : Im → Hm → Dm → Prop} (H : vp_in v2 12 ∧ (CI d nX2_isThere [.ref 1, .int (M 8 (v2.toNatClampNeg))] M h D (fun x1 M1 h1 D1 => ((x1 = 0) → (Q M1 h1 D1)) ∧ (¬ (x1 = 0) → (CV d nX1_addWayInto [.ref 29, .ref 1, .int (M 8 (v2.toNatClampNeg))] M1 h1 D1 (fun M3 h3 D3 => vp_in (M 8 (v2.toNatClampNeg)) 16 ∧ (vp_in v2 12 ∧ (1 ≤ d ∧ (vp_in (M 8 (v2.toNatClampNeg)) 16 ∧ (∀ M4 : Im, M4 = up2 M3 30 ((M 8 (v2.toNatClampNeg)).toNatClampNeg) (if (M3 30 ((M 8 (v2.toNatClampNeg)).toNatClampNeg)) < (M3 9 (v2.toNatClampNeg)) then (M3 9 (v2.toNatClampNeg)) else (M3 30 ((M 8 (v2.toNatClampNeg)).toNatClampNeg))) → (Q M4 h3 D3))))))))))) : EvV d nX1_addNeedsOfTaking 0 [(0, .ref 29), (1, .ref 1), (2, .int v2)] [] M h D Q := by
  refine ev_aload_n (pc1 := 1) rfl rfl (TBof tbs_10 _ rfl) rfl ?_
  refine ev_getP (pc1 := 4) (ci := 2) (k := 13) (a := 8) (TBof tbs_10 _ rfl) rfl (fldof mo_10 fl_1_97) ltc_1 sh_1 nk_2_13 fp_2_13 (by decide) pf_1_13 ?_
  refine ev_iload_n (pc1 := 5) rfl (TBof tbs_10 _ rfl) rfl ?_
  refine ev_iaload (pc1 := 6) (n := 12) (TBof tbs_10 _ rfl) rfl ltc_8 sh_8 H.1 ?_
  replace H := H.2
  refine ev_istore_n (pc1 := 7) (L1 := [(3, .int (M 8 (v2.toNatClampNeg))), (0, .ref 29), (1, .ref 1), (2, .int v2)]) (by rw [ml_10]; decide) rfl (TBof tbs_10 _ rfl) rfl ?_
  refine ev_aload_n (pc1 := 8) rfl rfl (TBof tbs_10 _ rfl) rfl ?_
  refine ev_iload_n (pc1 := 9) rfl (TBof tbs_10 _ rfl) rfl ?_
  refine ev_callvI (pc1 := 12) (as := [.int (M 8 (v2.toNatClampNeg))]) (r := []) (TBof tbs_10 _ rfl) rfl (lnkof mo_10 ln_1_82) rfl na_18 ltc_1 (sh_1.trans (by rw [mo_18])) (Nat.le_of_ble_eq_true rfl) H (fun x1 M1 h1 D1 H => ?_)
  refine ev_if (pc1 := 15) (t := 42) (TBof tbs_10 _ rfl) (by decide) rfl (fun c2 => ?_) (fun c2 => ?_)
  · replace H := H.1 c2
    exact ev_return (TBof tbs_10 _ rfl) rt_10 ⟨rfl, H⟩
  · replace H := H.2 c2
    refine ev_aload_n (pc1 := 16) rfl rfl (TBof tbs_10 _ rfl) rfl ?_
    refine ev_aload_n (pc1 := 17) rfl rfl (TBof tbs_10 _ rfl) rfl ?_
    refine ev_iload_n (pc1 := 18) rfl (TBof tbs_10 _ rfl) rfl ?_
    refine ev_callvV (pc1 := 21) (as := [.ref 1, .int (M 8 (v2.toNatClampNeg))]) (r := []) (TBof tbs_10 _ rfl) rfl (lnkof mo_10 ln_1_22) rfl na_8 ltc_29 (sh_29.trans (by rw [mo_8])) (Nat.le_of_ble_eq_true rfl) H (fun M3 h3 D3 H => ?_)
    refine ev_aload_n (pc1 := 22) rfl rfl (TBof tbs_10 _ rfl) rfl ?_
    refine ev_getP (pc1 := 25) (ci := 1) (k := 2) (a := 30) (TBof tbs_10 _ rfl) rfl (fldof mo_10 fl_1_9) ltc_29 sh_29 nk_1_2 fp_1_2 (by decide) pf_29_2 ?_
    refine ev_iload_n (pc1 := 26) rfl (TBof tbs_10 _ rfl) rfl ?_
    refine ev_aload_n (pc1 := 27) rfl rfl (TBof tbs_10 _ rfl) rfl ?_
    refine ev_getP (pc1 := 30) (ci := 1) (k := 2) (a := 30) (TBof tbs_10 _ rfl) rfl (fldof mo_10 fl_1_9) ltc_29 sh_29 nk_1_2 fp_1_2 (by decide) pf_29_2 ?_
    refine ev_iload_n (pc1 := 31) rfl (TBof tbs_10 _ rfl) rfl ?_
    refine ev_iaload (pc1 := 32) (n := 16) (TBof tbs_10 _ rfl) rfl ltc_30 sh_30 H.1 ?_
    replace H := H.2
    refine ev_aload_n (pc1 := 33) rfl rfl (TBof tbs_10 _ rfl) rfl ?_
    refine ev_getP (pc1 := 36) (ci := 2) (k := 14) (a := 9) (TBof tbs_10 _ rfl) rfl (fldof mo_10 fl_1_100) ltc_1 sh_1 nk_2_14 fp_2_14 (by decide) pf_1_14 ?_
    refine ev_iload_n (pc1 := 37) rfl (TBof tbs_10 _ rfl) rfl ?_
    refine ev_iaload (pc1 := 38) (n := 12) (TBof tbs_10 _ rfl) rfl ltc_9 sh_9 H.1 ?_
    replace H := H.2
    refine ev_max (pc1 := 41) (TBof tbs_10 _ rfl) rfl (lnkof mo_10 ln_1_48) (Nat.le_of_ble_eq_true rfl) H.1 ?_
    replace H := H.2
    refine ev_iastore (pc1 := 42) (n := 16) (TBof tbs_10 _ rfl) rfl ltc_30 sh_30 H.1 ?_
    replace H := H.2
    generalize e4 : up2 M3 30 ((M 8 (v2.toNatClampNeg)).toNatClampNeg) (if (M3 30 ((M 8 (v2.toNatClampNeg)).toNatClampNeg)) < (M3 9 (v2.toNatClampNeg)) then (M3 9 (v2.toNatClampNeg)) else (M3 30 ((M 8 (v2.toNatClampNeg)).toNatClampNeg))) = M4
    replace H := H M4 e4.symm
    exact ev_return (TBof tbs_10 _ rfl) rt_10 ⟨rfl, H⟩
set_option maxRecDepth 100000 in
theorem R_X1_addOpening_0 {d : Nat} {v2 : Int32} {M : Im} {h : Hm} {D : Dm} {Q : Im → Hm → Dm → Prop} (H : CI d nX2_isOpen [.ref 1, .int v2] M h D (fun x1 M1 h1 D1 => ((¬ (x1 = 0)) → (Q M1 h1 D1)) ∧ (¬ (¬ (x1 = 0)) → (CI d nX3_bit [.int v2] M1 h1 D1 (fun x3 M3 h3 D3 => Q (up2 M3 29 0 ((M1 29 0) ||| x3)) h3 D3))))) : EvV d nX1_addOpening 0 [(0, .ref 29), (1, .ref 1), (2, .int v2)] [] M h D Q := by
  refine ev_aload_n (pc1 := 1) rfl rfl (TBof tbs_11 _ rfl) rfl ?_
  refine ev_iload_n (pc1 := 2) rfl (TBof tbs_11 _ rfl) rfl ?_
  refine ev_callvI (pc1 := 5) (as := [.int v2]) (r := []) (TBof tbs_11 _ rfl) rfl (lnkof mo_11 ln_1_103) rfl na_19 ltc_1 (sh_1.trans (by rw [mo_19])) (Nat.le_of_ble_eq_true rfl) H (fun x1 M1 h1 D1 H => ?_)
  refine ev_if (pc1 := 8) (t := 21) (TBof tbs_11 _ rfl) (by decide) rfl (fun c2 => ?_) (fun c2 => ?_)
  · replace H := H.1 c2
    exact ev_return (TBof tbs_11 _ rfl) rt_11 ⟨rfl, H⟩
  · replace H := H.2 c2
    refine ev_aload_n (pc1 := 9) rfl rfl (TBof tbs_11 _ rfl) rfl ?_
    refine ev_dup (pc1 := 10) rfl (TBof tbs_11 _ rfl) rfl ?_
    refine ev_getI (pc1 := 13) (ci := 1) (k := 0) (TBof tbs_11 _ rfl) rfl (fldof mo_11 fl_1_15) ltc_29 sh_29 nk_1_0 fi_1_0 ?_
    refine ev_iload_n (pc1 := 14) rfl (TBof tbs_11 _ rfl) rfl ?_
    refine ev_callsI (pc1 := 17) (as := [.int v2]) (r := [.int (M1 29 0), .ref 29]) (TBof tbs_11 _ rfl) rfl (lnkof mo_11 ln_1_106) (Or.inr rfl) rfl na_60 (Nat.le_of_ble_eq_true rfl) H (fun x3 M3 h3 D3 H => ?_)
    refine ev_ior (pc1 := 18) (TBof tbs_11 _ rfl) rfl ?_
    refine ev_putI (pc1 := 21) (ci := 1) (k := 0) (TBof tbs_11 _ rfl) rfl (fldof mo_11 fl_1_15) ltc_29 sh_29 nk_1_0 rfl rfl ?_
    exact ev_return (TBof tbs_11 _ rfl) rt_11 ⟨rfl, H⟩
set_option maxRecDepth 100000 in
theorem R_X1_addTaking_0 {d : Nat} {v2 : Int32} {M : Im} {h : Hm} {D : Dm} {Q : Im → Hm → Dm → Prop} (H : CI d nX2_isInHand [.ref 1, .int v2] M h D (fun x1 M1 h1 D1 => ((¬ (x1 = 0)) → (Q M1 h1 D1)) ∧ (¬ (¬ (x1 = 0)) → (CI d nX3_bit [.int v2] M1 h1 D1 (fun x3 M3 h3 D3 => Q (up2 M3 29 1 ((M1 29 1) ||| x3)) h3 D3))))) : EvV d nX1_addTaking 0 [(0, .ref 29), (1, .ref 1), (2, .int v2)] [] M h D Q := by
  refine ev_aload_n (pc1 := 1) rfl rfl (TBof tbs_12 _ rfl) rfl ?_
  refine ev_iload_n (pc1 := 2) rfl (TBof tbs_12 _ rfl) rfl ?_
  refine ev_callvI (pc1 := 5) (as := [.int v2]) (r := []) (TBof tbs_12 _ rfl) rfl (lnkof mo_12 ln_1_109) rfl na_20 ltc_1 (sh_1.trans (by rw [mo_20])) (Nat.le_of_ble_eq_true rfl) H (fun x1 M1 h1 D1 H => ?_)
  refine ev_if (pc1 := 8) (t := 21) (TBof tbs_12 _ rfl) (by decide) rfl (fun c2 => ?_) (fun c2 => ?_)
  · replace H := H.1 c2
    exact ev_return (TBof tbs_12 _ rfl) rt_12 ⟨rfl, H⟩
  · replace H := H.2 c2
    refine ev_aload_n (pc1 := 9) rfl rfl (TBof tbs_12 _ rfl) rfl ?_
    refine ev_dup (pc1 := 10) rfl (TBof tbs_12 _ rfl) rfl ?_
    refine ev_getI (pc1 := 13) (ci := 1) (k := 1) (TBof tbs_12 _ rfl) rfl (fldof mo_12 fl_1_19) ltc_29 sh_29 nk_1_1 fi_1_1 ?_
    refine ev_iload_n (pc1 := 14) rfl (TBof tbs_12 _ rfl) rfl ?_
    refine ev_callsI (pc1 := 17) (as := [.int v2]) (r := [.int (M1 29 1), .ref 29]) (TBof tbs_12 _ rfl) rfl (lnkof mo_12 ln_1_106) (Or.inr rfl) rfl na_60 (Nat.le_of_ble_eq_true rfl) H (fun x3 M3 h3 D3 H => ?_)
    refine ev_ior (pc1 := 18) (TBof tbs_12 _ rfl) rfl ?_
    refine ev_putI (pc1 := 21) (ci := 1) (k := 1) (TBof tbs_12 _ rfl) rfl (fldof mo_12 fl_1_19) ltc_29 sh_29 nk_1_1 rfl rfl ?_
    exact ev_return (TBof tbs_12 _ rfl) rt_12 ⟨rfl, H⟩

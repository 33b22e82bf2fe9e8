/-! what each block of code asks: class 4 -/
set_option maxRecDepth 100000 in
theorem R_X4_in_0 {d : Nat} {v0 v1 v2 : Int32} {M : Im} {h : Hm} {D : Dm} {Q : Int32 → Im → Hm → Dm → Prop} (H : ((v0 < v1) → (Q 0 M h D)) ∧ (¬ (v0 < v1) → (((v2 < v0) → (Q 0 M h D)) ∧ (¬ (v2 < v0) → (Q 1 M h D))))) : EvI d nX4_in 0 [(0, .int v0), (1, .int v1), (2, .int v2)] [] M h D Q := by
  refine ev_iload_n (pc1 := 1) rfl (TBof tbs_84 _ rfl) rfl ?_
  refine ev_iload_n (pc1 := 2) rfl (TBof tbs_84 _ rfl) rfl ?_
  refine ev_icmp (pc1 := 5) (t := 14) (TBof tbs_84 _ rfl) (by decide) rfl (fun c1 => ?_) (fun c1 => ?_)
  · replace H := H.1 c1
    refine ev_iconst (pc1 := 15) (x := 0) (by decide) (TBof tbs_84 _ rfl) rfl ?_
    exact ev_ireturn (TBof tbs_84 _ rfl) (retI_z rt_84 (Or.inl rfl)) ⟨_, rfl, H⟩
  · replace H := H.2 c1
    refine ev_iload_n (pc1 := 6) rfl (TBof tbs_84 _ rfl) rfl ?_
    refine ev_iload_n (pc1 := 7) rfl (TBof tbs_84 _ rfl) rfl ?_
    refine ev_icmp (pc1 := 10) (t := 14) (TBof tbs_84 _ rfl) (by decide) rfl (fun c2 => ?_) (fun c2 => ?_)
    · replace H := H.1 c2
      refine ev_iconst (pc1 := 15) (x := 0) (by decide) (TBof tbs_84 _ rfl) rfl ?_
      exact ev_ireturn (TBof tbs_84 _ rfl) (retI_z rt_84 (Or.inl rfl)) ⟨_, rfl, H⟩
    · replace H := H.2 c2
      refine ev_iconst (pc1 := 11) (x := 1) (by decide) (TBof tbs_84 _ rfl) rfl ?_
      refine ev_goto (pc1 := 15) (TBof tbs_84 _ rfl) (by decide) ?_
      exact ev_ireturn (TBof tbs_84 _ rfl) (retI_z rt_84 (Or.inr rfl)) ⟨_, rfl, H⟩
set_option maxRecDepth 100000 in
theorem R_X4_t_0 {d : Nat} {v0 : Int32} {M : Im} {h : Hm} {D : Dm} {Q : Int32 → Im → Hm → Dm → Prop} (H : Q (4 + (3 * v0)) M h D) : EvI d nX4_t 0 [(0, .int v0)] [] M h D Q := by
  refine ev_iconst (pc1 := 1) (x := 4) (by decide) (TBof tbs_85 _ rfl) rfl ?_
  refine ev_iconst (pc1 := 2) (x := 3) (by decide) (TBof tbs_85 _ rfl) rfl ?_
  refine ev_iload_n (pc1 := 3) rfl (TBof tbs_85 _ rfl) rfl ?_
  refine ev_imul (pc1 := 4) (TBof tbs_85 _ rfl) rfl ?_
  refine ev_iadd (pc1 := 5) (TBof tbs_85 _ rfl) rfl ?_
  exact ev_ireturn (TBof tbs_85 _ rfl) (retI_i rt_85) ⟨_, rfl, H⟩
set_option maxRecDepth 100000 in
theorem R_X4_d_0 {d : Nat} {v0 : Int32} {M : Im} {h : Hm} {D : Dm} {Q : Int32 → Im → Hm → Dm → Prop} (H : Q (40 + (8 * v0)) M h D) : EvI d nX4_d 0 [(0, .int v0)] [] M h D Q := by
  refine ev_bipush (pc1 := 2) (x := 40) (by decide) (TBof tbs_86 _ rfl) rfl ?_
  refine ev_bipush (pc1 := 4) (x := 8) (by decide) (TBof tbs_86 _ rfl) rfl ?_
  refine ev_iload_n (pc1 := 5) rfl (TBof tbs_86 _ rfl) rfl ?_
  refine ev_imul (pc1 := 6) (TBof tbs_86 _ rfl) rfl ?_
  refine ev_iadd (pc1 := 7) (TBof tbs_86 _ rfl) rfl ?_
  exact ev_ireturn (TBof tbs_86 _ rfl) (retI_i rt_86) ⟨_, rfl, H⟩
set_option maxRecDepth 100000 in
theorem R_X4_record_0 {d : Nat} {M : Im} {h : Hm} {D : Dm} {Q : Im → Hm → Dm → Prop} (H : ((¬ ((M 73 11) = 4)) → (EvV d nX4_record 87 [(0, .ref 73), (1, .int 0)] [] M h D Q)) ∧ (¬ (¬ ((M 73 11) = 4)) → (EvV d nX4_record 10 [(0, .ref 73), (1, .int 0)] [] M h D Q))) : EvV d nX4_record 0 [(0, .ref 73)] [] M h D Q := by
  refine ev_aload_n (pc1 := 1) rfl rfl (TBof tbs_87 _ rfl) rfl ?_
  refine ev_getI (pc1 := 4) (ci := 4) (k := 11) (TBof tbs_87 _ rfl) rfl (fldof mo_87 fl_4_47) ltc_73 sh_73 nk_4_11 fi_4_11 ?_
  refine ev_iconst (pc1 := 5) (x := 4) (by decide) (TBof tbs_87 _ rfl) rfl ?_
  refine ev_icmp (pc1 := 8) (t := 85) (TBof tbs_87 _ rfl) (by decide) rfl (fun c1 => ?_) (fun c1 => ?_)
  · replace H := H.1 c1
    refine ev_iconst (pc1 := 86) (x := 0) (by decide) (TBof tbs_87 _ rfl) rfl ?_
    refine ev_istore_n (pc1 := 87) (L1 := [(1, .int 0), (0, .ref 73)]) (by rw [ml_87]; decide) rfl (TBof tbs_87 _ rfl) rfl ?_
    exact ev_le [1, 0] rfl rfl H
  · replace H := H.2 c1
    refine ev_iconst (pc1 := 9) (x := 0) (by decide) (TBof tbs_87 _ rfl) rfl ?_
    refine ev_istore_n (pc1 := 10) (L1 := [(1, .int 0), (0, .ref 73)]) (by rw [ml_87]; decide) rfl (TBof tbs_87 _ rfl) rfl ?_
    exact ev_le [1, 0] rfl rfl H
set_option maxRecDepth 100000 in
theorem R_X4_record_10 {d : Nat} {v1 : Int32} {M : Im} {h : Hm} {D : Dm} {Q : Im → Hm → Dm → Prop} (H : ((504 ≤ v1) → (vp_in 2 6 ∧ (vp_in 1 6 ∧ (vp_in 3 6 ∧ (vp_in 2 6 ∧ (vp_in 4 6 ∧ (vp_in 3 6 ∧ (EvV d nX4_record 87 [(0, .ref 73), (1, .int 0)] [] (up2 M 73 11 ((M 73 11) - 1)) h (up2 (up2 (up2 D 77 ((1 : Int32).toNatClampNeg) (D 77 ((2 : Int32).toNatClampNeg))) 77 ((2 : Int32).toNatClampNeg) ((up2 D 77 ((1 : Int32).toNatClampNeg) (D 77 ((2 : Int32).toNatClampNeg))) 77 ((3 : Int32).toNatClampNeg))) 77 ((3 : Int32).toNatClampNeg) ((up2 (up2 D 77 ((1 : Int32).toNatClampNeg) (D 77 ((2 : Int32).toNatClampNeg))) 77 ((2 : Int32).toNatClampNeg) ((up2 D 77 ((1 : Int32).toNatClampNeg) (D 77 ((2 : Int32).toNatClampNeg))) 77 ((3 : Int32).toNatClampNeg))) 77 ((4 : Int32).toNatClampNeg))) Q)))))))) ∧ (¬ (504 ≤ v1) → (vp_in (168 + v1) 672 ∧ (vp_in v1 672 ∧ (EvV d nX4_record 10 [(0, .ref 73), (1, .int (v1 + 1))] [] (up2 M 75 (v1.toNatClampNeg) (M 75 ((168 + v1).toNatClampNeg))) h D Q))))) : EvV d nX4_record 10 [(0, .ref 73), (1, .int v1)] [] M h D Q := by
  refine ev_iload_n (pc1 := 11) rfl (TBof tbs_87 _ rfl) rfl ?_
  refine ev_sipush (pc1 := 14) (x := 504) (by decide) (TBof tbs_87 _ rfl) rfl ?_
  refine ev_icmp (pc1 := 17) (t := 39) (TBof tbs_87 _ rfl) (by decide) rfl (fun c1 => ?_) (fun c1 => ?_)
  · replace H := H.1 c1
    refine ev_aload_n (pc1 := 40) rfl rfl (TBof tbs_87 _ rfl) rfl ?_
    refine ev_getP (pc1 := 43) (ci := 4) (k := 3) (a := 77) (TBof tbs_87 _ rfl) rfl (fldof mo_87 fl_4_19) ltc_73 sh_73 nk_4_3 fp_4_3 (by decide) pf_73_3 ?_
    refine ev_iconst (pc1 := 44) (x := 1) (by decide) (TBof tbs_87 _ rfl) rfl ?_
    refine ev_aload_n (pc1 := 45) rfl rfl (TBof tbs_87 _ rfl) rfl ?_
    refine ev_getP (pc1 := 48) (ci := 4) (k := 3) (a := 77) (TBof tbs_87 _ rfl) rfl (fldof mo_87 fl_4_19) ltc_73 sh_73 nk_4_3 fp_4_3 (by decide) pf_73_3 ?_
    refine ev_iconst (pc1 := 49) (x := 2) (by decide) (TBof tbs_87 _ rfl) rfl ?_
    refine ev_daload (pc1 := 50) (n := 6) (TBof tbs_87 _ rfl) rfl ltc_77 sh_77 H.1 ?_
    replace H := H.2
    refine ev_dastore (pc1 := 51) (n := 6) (TBof tbs_87 _ rfl) rfl ltc_77 sh_77 H.1 ?_
    replace H := H.2
    refine ev_aload_n (pc1 := 52) rfl rfl (TBof tbs_87 _ rfl) rfl ?_
    refine ev_getP (pc1 := 55) (ci := 4) (k := 3) (a := 77) (TBof tbs_87 _ rfl) rfl (fldof mo_87 fl_4_19) ltc_73 sh_73 nk_4_3 fp_4_3 (by decide) pf_73_3 ?_
    refine ev_iconst (pc1 := 56) (x := 2) (by decide) (TBof tbs_87 _ rfl) rfl ?_
    refine ev_aload_n (pc1 := 57) rfl rfl (TBof tbs_87 _ rfl) rfl ?_
    refine ev_getP (pc1 := 60) (ci := 4) (k := 3) (a := 77) (TBof tbs_87 _ rfl) rfl (fldof mo_87 fl_4_19) ltc_73 sh_73 nk_4_3 fp_4_3 (by decide) pf_73_3 ?_
    refine ev_iconst (pc1 := 61) (x := 3) (by decide) (TBof tbs_87 _ rfl) rfl ?_
    refine ev_daload (pc1 := 62) (n := 6) (TBof tbs_87 _ rfl) rfl ltc_77 sh_77 H.1 ?_
    replace H := H.2
    refine ev_dastore (pc1 := 63) (n := 6) (TBof tbs_87 _ rfl) rfl ltc_77 sh_77 H.1 ?_
    replace H := H.2
    refine ev_aload_n (pc1 := 64) rfl rfl (TBof tbs_87 _ rfl) rfl ?_
    refine ev_getP (pc1 := 67) (ci := 4) (k := 3) (a := 77) (TBof tbs_87 _ rfl) rfl (fldof mo_87 fl_4_19) ltc_73 sh_73 nk_4_3 fp_4_3 (by decide) pf_73_3 ?_
    refine ev_iconst (pc1 := 68) (x := 3) (by decide) (TBof tbs_87 _ rfl) rfl ?_
    refine ev_aload_n (pc1 := 69) rfl rfl (TBof tbs_87 _ rfl) rfl ?_
    refine ev_getP (pc1 := 72) (ci := 4) (k := 3) (a := 77) (TBof tbs_87 _ rfl) rfl (fldof mo_87 fl_4_19) ltc_73 sh_73 nk_4_3 fp_4_3 (by decide) pf_73_3 ?_
    refine ev_iconst (pc1 := 73) (x := 4) (by decide) (TBof tbs_87 _ rfl) rfl ?_
    refine ev_daload (pc1 := 74) (n := 6) (TBof tbs_87 _ rfl) rfl ltc_77 sh_77 H.1 ?_
    replace H := H.2
    refine ev_dastore (pc1 := 75) (n := 6) (TBof tbs_87 _ rfl) rfl ltc_77 sh_77 H.1 ?_
    replace H := H.2
    refine ev_aload_n (pc1 := 76) rfl rfl (TBof tbs_87 _ rfl) rfl ?_
    refine ev_dup (pc1 := 77) rfl (TBof tbs_87 _ rfl) rfl ?_
    refine ev_getI (pc1 := 80) (ci := 4) (k := 11) (TBof tbs_87 _ rfl) rfl (fldof mo_87 fl_4_47) ltc_73 sh_73 nk_4_11 fi_4_11 ?_
    refine ev_iconst (pc1 := 81) (x := 1) (by decide) (TBof tbs_87 _ rfl) rfl ?_
    refine ev_isub (pc1 := 82) (TBof tbs_87 _ rfl) rfl ?_
    refine ev_putI (pc1 := 85) (ci := 4) (k := 11) (TBof tbs_87 _ rfl) rfl (fldof mo_87 fl_4_47) ltc_73 sh_73 nk_4_11 rfl rfl ?_
    refine ev_iconst (pc1 := 86) (x := 0) (by decide) (TBof tbs_87 _ rfl) rfl ?_
    refine ev_istore_n (pc1 := 87) (L1 := [(1, .int 0), (0, .ref 73)]) (by rw [ml_87]; decide) rfl (TBof tbs_87 _ rfl) rfl ?_
    exact ev_le [1, 0] rfl rfl H
  · replace H := H.2 c1
    refine ev_aload_n (pc1 := 18) rfl rfl (TBof tbs_87 _ rfl) rfl ?_
    refine ev_getP (pc1 := 21) (ci := 4) (k := 1) (a := 75) (TBof tbs_87 _ rfl) rfl (fldof mo_87 fl_4_13) ltc_73 sh_73 nk_4_1 fp_4_1 (by decide) pf_73_1 ?_
    refine ev_iload_n (pc1 := 22) rfl (TBof tbs_87 _ rfl) rfl ?_
    refine ev_aload_n (pc1 := 23) rfl rfl (TBof tbs_87 _ rfl) rfl ?_
    refine ev_getP (pc1 := 26) (ci := 4) (k := 1) (a := 75) (TBof tbs_87 _ rfl) rfl (fldof mo_87 fl_4_13) ltc_73 sh_73 nk_4_1 fp_4_1 (by decide) pf_73_1 ?_
    refine ev_sipush (pc1 := 29) (x := 168) (by decide) (TBof tbs_87 _ rfl) rfl ?_
    refine ev_iload_n (pc1 := 30) rfl (TBof tbs_87 _ rfl) rfl ?_
    refine ev_iadd (pc1 := 31) (TBof tbs_87 _ rfl) rfl ?_
    refine ev_iaload (pc1 := 32) (n := 672) (TBof tbs_87 _ rfl) rfl ltc_75 sh_75 H.1 ?_
    replace H := H.2
    refine ev_iastore (pc1 := 33) (n := 672) (TBof tbs_87 _ rfl) rfl ltc_75 sh_75 H.1 ?_
    replace H := H.2
    refine ev_iinc (pc1 := 36) (n := 1) (c := 1) (x := v1) (cc := 1) (L1 := [(1, .int (v1 + 1)), (0, .ref 73)]) rfl (by rw [ml_87]; decide) (by decide) rfl (TBof tbs_87 _ rfl) rfl ?_
    refine ev_goto (pc1 := 10) (TBof tbs_87 _ rfl) (by decide) ?_
    exact ev_le [1, 0] rfl rfl H
set_option maxRecDepth 100000 in
theorem R_X4_record_87 {d : Nat} {v1 : Int32} {M : Im} {h : Hm} {D : Dm} {Q : Im → Hm → Dm → Prop} (H : ((168 ≤ v1) → (vp_in 0 6 ∧ (vp_in (1 + (M 73 11)) 6 ∧ (Q (up2 M 73 11 ((M 73 11) + 1)) h (up2 D 77 ((1 + (M 73 11)).toNatClampNeg) (D 77 ((0 : Int32).toNatClampNeg))))))) ∧ (¬ (168 ≤ v1) → (vp_in v1 168 ∧ (vp_in ((168 * (M 73 11)) + v1) 672 ∧ (EvV d nX4_record 87 [(0, .ref 73), (1, .int (v1 + 1))] [] (up2 M 75 (((168 * (M 73 11)) + v1).toNatClampNeg) (M 74 (v1.toNatClampNeg))) h D Q))))) : EvV d nX4_record 87 [(0, .ref 73), (1, .int v1)] [] M h D Q := by
  refine ev_iload_n (pc1 := 88) rfl (TBof tbs_87 _ rfl) rfl ?_
  refine ev_sipush (pc1 := 91) (x := 168) (by decide) (TBof tbs_87 _ rfl) rfl ?_
  refine ev_icmp (pc1 := 94) (t := 121) (TBof tbs_87 _ rfl) (by decide) rfl (fun c1 => ?_) (fun c1 => ?_)
  · replace H := H.1 c1
    refine ev_aload_n (pc1 := 122) rfl rfl (TBof tbs_87 _ rfl) rfl ?_
    refine ev_getP (pc1 := 125) (ci := 4) (k := 3) (a := 77) (TBof tbs_87 _ rfl) rfl (fldof mo_87 fl_4_19) ltc_73 sh_73 nk_4_3 fp_4_3 (by decide) pf_73_3 ?_
    refine ev_iconst (pc1 := 126) (x := 1) (by decide) (TBof tbs_87 _ rfl) rfl ?_
    refine ev_aload_n (pc1 := 127) rfl rfl (TBof tbs_87 _ rfl) rfl ?_
    refine ev_getI (pc1 := 130) (ci := 4) (k := 11) (TBof tbs_87 _ rfl) rfl (fldof mo_87 fl_4_47) ltc_73 sh_73 nk_4_11 fi_4_11 ?_
    refine ev_iadd (pc1 := 131) (TBof tbs_87 _ rfl) rfl ?_
    refine ev_aload_n (pc1 := 132) rfl rfl (TBof tbs_87 _ rfl) rfl ?_
    refine ev_getP (pc1 := 135) (ci := 4) (k := 3) (a := 77) (TBof tbs_87 _ rfl) rfl (fldof mo_87 fl_4_19) ltc_73 sh_73 nk_4_3 fp_4_3 (by decide) pf_73_3 ?_
    refine ev_iconst (pc1 := 136) (x := 0) (by decide) (TBof tbs_87 _ rfl) rfl ?_
    refine ev_daload (pc1 := 137) (n := 6) (TBof tbs_87 _ rfl) rfl ltc_77 sh_77 H.1 ?_
    replace H := H.2
    refine ev_dastore (pc1 := 138) (n := 6) (TBof tbs_87 _ rfl) rfl ltc_77 sh_77 H.1 ?_
    replace H := H.2
    refine ev_aload_n (pc1 := 139) rfl rfl (TBof tbs_87 _ rfl) rfl ?_
    refine ev_dup (pc1 := 140) rfl (TBof tbs_87 _ rfl) rfl ?_
    refine ev_getI (pc1 := 143) (ci := 4) (k := 11) (TBof tbs_87 _ rfl) rfl (fldof mo_87 fl_4_47) ltc_73 sh_73 nk_4_11 fi_4_11 ?_
    refine ev_iconst (pc1 := 144) (x := 1) (by decide) (TBof tbs_87 _ rfl) rfl ?_
    refine ev_iadd (pc1 := 145) (TBof tbs_87 _ rfl) rfl ?_
    refine ev_putI (pc1 := 148) (ci := 4) (k := 11) (TBof tbs_87 _ rfl) rfl (fldof mo_87 fl_4_47) ltc_73 sh_73 nk_4_11 rfl rfl ?_
    exact ev_return (TBof tbs_87 _ rfl) rt_87 ⟨rfl, H⟩
  · replace H := H.2 c1
    refine ev_aload_n (pc1 := 95) rfl rfl (TBof tbs_87 _ rfl) rfl ?_
    refine ev_getP (pc1 := 98) (ci := 4) (k := 1) (a := 75) (TBof tbs_87 _ rfl) rfl (fldof mo_87 fl_4_13) ltc_73 sh_73 nk_4_1 fp_4_1 (by decide) pf_73_1 ?_
    refine ev_sipush (pc1 := 101) (x := 168) (by decide) (TBof tbs_87 _ rfl) rfl ?_
    refine ev_aload_n (pc1 := 102) rfl rfl (TBof tbs_87 _ rfl) rfl ?_
    refine ev_getI (pc1 := 105) (ci := 4) (k := 11) (TBof tbs_87 _ rfl) rfl (fldof mo_87 fl_4_47) ltc_73 sh_73 nk_4_11 fi_4_11 ?_
    refine ev_imul (pc1 := 106) (TBof tbs_87 _ rfl) rfl ?_
    refine ev_iload_n (pc1 := 107) rfl (TBof tbs_87 _ rfl) rfl ?_
    refine ev_iadd (pc1 := 108) (TBof tbs_87 _ rfl) rfl ?_
    refine ev_aload_n (pc1 := 109) rfl rfl (TBof tbs_87 _ rfl) rfl ?_
    refine ev_getP (pc1 := 112) (ci := 4) (k := 0) (a := 74) (TBof tbs_87 _ rfl) rfl (fldof mo_87 fl_4_7) ltc_73 sh_73 nk_4_0 fp_4_0 (by decide) pf_73_0 ?_
    refine ev_iload_n (pc1 := 113) rfl (TBof tbs_87 _ rfl) rfl ?_
    refine ev_iaload (pc1 := 114) (n := 168) (TBof tbs_87 _ rfl) rfl ltc_74 sh_74 H.1 ?_
    replace H := H.2
    refine ev_iastore (pc1 := 115) (n := 672) (TBof tbs_87 _ rfl) rfl ltc_75 sh_75 H.1 ?_
    replace H := H.2
    refine ev_iinc (pc1 := 118) (n := 1) (c := 1) (x := v1) (cc := 1) (L1 := [(1, .int (v1 + 1)), (0, .ref 73)]) rfl (by rw [ml_87]; decide) (by decide) rfl (TBof tbs_87 _ rfl) rfl ?_
    refine ev_goto (pc1 := 87) (TBof tbs_87 _ rfl) (by decide) ?_
    exact ev_le [1, 0] rfl rfl H
set_option maxRecDepth 100000 in
theorem R_X4_isDrawer_0 {d : Nat} {v1 : Int32} {M : Im} {h : Hm} {D : Dm} {Q : Int32 → Im → Hm → Dm → Prop} (H : vp_in 0 168 ∧ (CI d nX4_in [.int v1, .int 0, .int ((M 74 ((0 : Int32).toNatClampNeg)) - 1)] M h D (fun x1 M1 h1 D1 => (x1 = 0 ∨ x1 = 1) ∧ Q x1 M1 h1 D1))) : EvI d nX4_isDrawer 0 [(0, .ref 73), (1, .int v1)] [] M h D Q := by
  refine ev_iload_n (pc1 := 1) rfl (TBof tbs_88 _ rfl) rfl ?_
  refine ev_iconst (pc1 := 2) (x := 0) (by decide) (TBof tbs_88 _ rfl) rfl ?_
  refine ev_aload_n (pc1 := 3) rfl rfl (TBof tbs_88 _ rfl) rfl ?_
  refine ev_getP (pc1 := 6) (ci := 4) (k := 0) (a := 74) (TBof tbs_88 _ rfl) rfl (fldof mo_88 fl_4_7) ltc_73 sh_73 nk_4_0 fp_4_0 (by decide) pf_73_0 ?_
  refine ev_iconst (pc1 := 7) (x := 0) (by decide) (TBof tbs_88 _ rfl) rfl ?_
  refine ev_iaload (pc1 := 8) (n := 168) (TBof tbs_88 _ rfl) rfl ltc_74 sh_74 H.1 ?_
  replace H := H.2
  refine ev_iconst (pc1 := 9) (x := 1) (by decide) (TBof tbs_88 _ rfl) rfl ?_
  refine ev_isub (pc1 := 10) (TBof tbs_88 _ rfl) rfl ?_
  refine ev_callsI (pc1 := 13) (as := [.int v1, .int 0, .int ((M 74 ((0 : Int32).toNatClampNeg)) - 1)]) (r := []) (TBof tbs_88 _ rfl) rfl (lnkof mo_88 ln_4_51) (Or.inl rfl) rfl na_84 (Nat.le_of_ble_eq_true rfl) H (fun x1 M1 h1 D1 H => ?_)
  exact ev_ireturn (TBof tbs_88 _ rfl) (retI_z rt_88 H.1) ⟨_, rfl, H.2⟩
set_option maxRecDepth 100000 in
theorem R_X4_isGame_0 {d : Nat} {M : Im} {h : Hm} {D : Dm} {Q : Int32 → Im → Hm → Dm → Prop} (H : vp_in 1 168 ∧ (((¬ ((M 74 ((1 : Int32).toNatClampNeg)) = 1)) → (Q 0 M h D)) ∧ (¬ (¬ ((M 74 ((1 : Int32).toNatClampNeg)) = 1)) → (Q 1 M h D)))) : EvI d nX4_isGame 0 [(0, .ref 73)] [] M h D Q := by
  refine ev_aload_n (pc1 := 1) rfl rfl (TBof tbs_89 _ rfl) rfl ?_
  refine ev_getP (pc1 := 4) (ci := 4) (k := 0) (a := 74) (TBof tbs_89 _ rfl) rfl (fldof mo_89 fl_4_7) ltc_73 sh_73 nk_4_0 fp_4_0 (by decide) pf_73_0 ?_
  refine ev_iconst (pc1 := 5) (x := 1) (by decide) (TBof tbs_89 _ rfl) rfl ?_
  refine ev_iaload (pc1 := 6) (n := 168) (TBof tbs_89 _ rfl) rfl ltc_74 sh_74 H.1 ?_
  replace H := H.2
  refine ev_iconst (pc1 := 7) (x := 1) (by decide) (TBof tbs_89 _ rfl) rfl ?_
  refine ev_icmp (pc1 := 10) (t := 14) (TBof tbs_89 _ rfl) (by decide) rfl (fun c1 => ?_) (fun c1 => ?_)
  · replace H := H.1 c1
    refine ev_iconst (pc1 := 15) (x := 0) (by decide) (TBof tbs_89 _ rfl) rfl ?_
    exact ev_ireturn (TBof tbs_89 _ rfl) (retI_z rt_89 (Or.inl rfl)) ⟨_, rfl, H⟩
  · replace H := H.2 c1
    refine ev_iconst (pc1 := 11) (x := 1) (by decide) (TBof tbs_89 _ rfl) rfl ?_
    refine ev_goto (pc1 := 15) (TBof tbs_89 _ rfl) (by decide) ?_
    exact ev_ireturn (TBof tbs_89 _ rfl) (retI_z rt_89 (Or.inr rfl)) ⟨_, rfl, H⟩
set_option maxRecDepth 100000 in
theorem R_X4_sumOf_0 {d : Nat} {v1 : Int32} {M : Im} {h : Hm} {D : Dm} {Q : Int32 → Im → Hm → Dm → Prop} (H : EvI d nX4_sumOf 4 [(0, .ref 73), (1, .int v1), (2, .int 0), (3, .int 0)] [] M h D Q) : EvI d nX4_sumOf 0 [(0, .ref 73), (1, .int v1)] [] M h D Q := by
  refine ev_iconst (pc1 := 1) (x := 0) (by decide) (TBof tbs_90 _ rfl) rfl ?_
  refine ev_istore_n (pc1 := 2) (L1 := [(2, .int 0), (0, .ref 73), (1, .int v1)]) (by rw [ml_90]; decide) rfl (TBof tbs_90 _ rfl) rfl ?_
  refine ev_iconst (pc1 := 3) (x := 0) (by decide) (TBof tbs_90 _ rfl) rfl ?_
  refine ev_istore_n (pc1 := 4) (L1 := [(3, .int 0), (2, .int 0), (0, .ref 73), (1, .int v1)]) (by rw [ml_90]; decide) rfl (TBof tbs_90 _ rfl) rfl ?_
  exact ev_le [2, 3, 1, 0] rfl rfl H
set_option maxRecDepth 100000 in
theorem R_X4_sumOf_4 {d : Nat} {v1 v2 v3 : Int32} {M : Im} {h : Hm} {D : Dm} {Q : Int32 → Im → Hm → Dm → Prop} (H : vp_in 0 168 ∧ ((((M 74 ((0 : Int32).toNatClampNeg)) ≤ v3) → (Q v2 M h D)) ∧ (¬ ((M 74 ((0 : Int32).toNatClampNeg)) ≤ v3) → (CI d nX4_d [.int v3] M h D (fun x2 M2 h2 D2 => vp_in (x2 + v1) 168 ∧ (EvI d nX4_sumOf 4 [(0, .ref 73), (1, .int v1), (2, .int (v2 + (M2 74 ((x2 + v1).toNatClampNeg)))), (3, .int (v3 + 1))] [] M2 h2 D2 Q)))))) : EvI d nX4_sumOf 4 [(0, .ref 73), (1, .int v1), (2, .int v2), (3, .int v3)] [] M h D Q := by
  refine ev_iload_n (pc1 := 5) rfl (TBof tbs_90 _ rfl) rfl ?_
  refine ev_aload_n (pc1 := 6) rfl rfl (TBof tbs_90 _ rfl) rfl ?_
  refine ev_getP (pc1 := 9) (ci := 4) (k := 0) (a := 74) (TBof tbs_90 _ rfl) rfl (fldof mo_90 fl_4_7) ltc_73 sh_73 nk_4_0 fp_4_0 (by decide) pf_73_0 ?_
  refine ev_iconst (pc1 := 10) (x := 0) (by decide) (TBof tbs_90 _ rfl) rfl ?_
  refine ev_iaload (pc1 := 11) (n := 168) (TBof tbs_90 _ rfl) rfl ltc_74 sh_74 H.1 ?_
  replace H := H.2
  refine ev_icmp (pc1 := 14) (t := 34) (TBof tbs_90 _ rfl) (by decide) rfl (fun c1 => ?_) (fun c1 => ?_)
  · replace H := H.1 c1
    refine ev_iload_n (pc1 := 35) rfl (TBof tbs_90 _ rfl) rfl ?_
    exact ev_ireturn (TBof tbs_90 _ rfl) (retI_i rt_90) ⟨_, rfl, H⟩
  · replace H := H.2 c1
    refine ev_iload_n (pc1 := 15) rfl (TBof tbs_90 _ rfl) rfl ?_
    refine ev_aload_n (pc1 := 16) rfl rfl (TBof tbs_90 _ rfl) rfl ?_
    refine ev_getP (pc1 := 19) (ci := 4) (k := 0) (a := 74) (TBof tbs_90 _ rfl) rfl (fldof mo_90 fl_4_7) ltc_73 sh_73 nk_4_0 fp_4_0 (by decide) pf_73_0 ?_
    refine ev_iload_n (pc1 := 20) rfl (TBof tbs_90 _ rfl) rfl ?_
    refine ev_callsI (pc1 := 23) (as := [.int v3]) (r := [.ref 74, .int v2]) (TBof tbs_90 _ rfl) rfl (lnkof mo_90 ln_4_55) (Or.inl rfl) rfl na_86 (Nat.le_of_ble_eq_true rfl) H (fun x2 M2 h2 D2 H => ?_)
    refine ev_iload_n (pc1 := 24) rfl (TBof tbs_90 _ rfl) rfl ?_
    refine ev_iadd (pc1 := 25) (TBof tbs_90 _ rfl) rfl ?_
    refine ev_iaload (pc1 := 26) (n := 168) (TBof tbs_90 _ rfl) rfl ltc_74 sh_74 H.1 ?_
    replace H := H.2
    refine ev_iadd (pc1 := 27) (TBof tbs_90 _ rfl) rfl ?_
    refine ev_istore_n (pc1 := 28) (L1 := [(2, .int (v2 + (M2 74 ((x2 + v1).toNatClampNeg)))), (0, .ref 73), (1, .int v1), (3, .int v3)]) (by rw [ml_90]; decide) rfl (TBof tbs_90 _ rfl) rfl ?_
    refine ev_iinc (pc1 := 31) (n := 3) (c := 1) (x := v3) (cc := 1) (L1 := [(3, .int (v3 + 1)), (2, .int (v2 + (M2 74 ((x2 + v1).toNatClampNeg)))), (0, .ref 73), (1, .int v1)]) rfl (by rw [ml_90]; decide) (by decide) rfl (TBof tbs_90 _ rfl) rfl ?_
    refine ev_goto (pc1 := 4) (TBof tbs_90 _ rfl) (by decide) ?_
    exact ev_le [2, 3, 1, 0] rfl rfl H
set_option maxRecDepth 100000 in
theorem R_X4_goBuild_0 {d : Nat} {v1 v2 v3 v4 : Int32} {M : Im} {h : Hm} {D : Dm} {Q : Int32 → Im → Hm → Dm → Prop} (H : vp_in 0 168 ∧ (CI d nX4_d [.int (M 74 ((0 : Int32).toNatClampNeg))] M h D (fun x1 M1 h1 D1 => vp_in (x1 + 0) 168 ∧ (vp_in (x1 + 1) 168 ∧ (((v2 = 1) → (EvI d nX4_goBuild 55 [(0, .ref 73), (1, .int v1), (2, .int v2), (3, .int v3), (4, .int v4), (5, .int x1)] [.int v3, .int (x1 + 2), .ref 74] (up2 (up2 M1 74 ((x1 + 0).toNatClampNeg) v1) 74 ((x1 + 1).toNatClampNeg) v2) h1 D1 Q)) ∧ (¬ (v2 = 1) → (((¬ (v2 = 2)) → (EvI d nX4_goBuild 55 [(0, .ref 73), (1, .int v1), (2, .int v2), (3, .int v3), (4, .int v4), (5, .int x1)] [.int (-5), .int (x1 + 2), .ref 74] (up2 (up2 M1 74 ((x1 + 0).toNatClampNeg) v1) 74 ((x1 + 1).toNatClampNeg) v2) h1 D1 Q)) ∧ (¬ (¬ (v2 = 2)) → (EvI d nX4_goBuild 55 [(0, .ref 73), (1, .int v1), (2, .int v2), (3, .int v3), (4, .int v4), (5, .int x1)] [.int v3, .int (x1 + 2), .ref 74] (up2 (up2 M1 74 ((x1 + 0).toNatClampNeg) v1) 74 ((x1 + 1).toNatClampNeg) v2) h1 D1 Q))))))))) : EvI d nX4_goBuild 0 [(0, .ref 73), (1, .int v1), (2, .int v2), (3, .int v3), (4, .int v4)] [] M h D Q := by
  refine ev_aload_n (pc1 := 1) rfl rfl (TBof tbs_91 _ rfl) rfl ?_
  refine ev_getP (pc1 := 4) (ci := 4) (k := 0) (a := 74) (TBof tbs_91 _ rfl) rfl (fldof mo_91 fl_4_7) ltc_73 sh_73 nk_4_0 fp_4_0 (by decide) pf_73_0 ?_
  refine ev_iconst (pc1 := 5) (x := 0) (by decide) (TBof tbs_91 _ rfl) rfl ?_
  refine ev_iaload (pc1 := 6) (n := 168) (TBof tbs_91 _ rfl) rfl ltc_74 sh_74 H.1 ?_
  replace H := H.2
  refine ev_callsI (pc1 := 9) (as := [.int (M 74 ((0 : Int32).toNatClampNeg))]) (r := []) (TBof tbs_91 _ rfl) rfl (lnkof mo_91 ln_4_55) (Or.inl rfl) rfl na_86 (Nat.le_of_ble_eq_true rfl) H (fun x1 M1 h1 D1 H => ?_)
  refine ev_istore (pc1 := 11) (L1 := [(5, .int x1), (0, .ref 73), (1, .int v1), (2, .int v2), (3, .int v3), (4, .int v4)]) (by rw [ml_91]; decide) rfl (TBof tbs_91 _ rfl) rfl ?_
  refine ev_aload_n (pc1 := 12) rfl rfl (TBof tbs_91 _ rfl) rfl ?_
  refine ev_getP (pc1 := 15) (ci := 4) (k := 0) (a := 74) (TBof tbs_91 _ rfl) rfl (fldof mo_91 fl_4_7) ltc_73 sh_73 nk_4_0 fp_4_0 (by decide) pf_73_0 ?_
  refine ev_iload (pc1 := 17) rfl (TBof tbs_91 _ rfl) rfl ?_
  refine ev_iconst (pc1 := 18) (x := 0) (by decide) (TBof tbs_91 _ rfl) rfl ?_
  refine ev_iadd (pc1 := 19) (TBof tbs_91 _ rfl) rfl ?_
  refine ev_iload_n (pc1 := 20) rfl (TBof tbs_91 _ rfl) rfl ?_
  refine ev_iastore (pc1 := 21) (n := 168) (TBof tbs_91 _ rfl) rfl ltc_74 sh_74 H.1 ?_
  replace H := H.2
  refine ev_aload_n (pc1 := 22) rfl rfl (TBof tbs_91 _ rfl) rfl ?_
  refine ev_getP (pc1 := 25) (ci := 4) (k := 0) (a := 74) (TBof tbs_91 _ rfl) rfl (fldof mo_91 fl_4_7) ltc_73 sh_73 nk_4_0 fp_4_0 (by decide) pf_73_0 ?_
  refine ev_iload (pc1 := 27) rfl (TBof tbs_91 _ rfl) rfl ?_
  refine ev_iconst (pc1 := 28) (x := 1) (by decide) (TBof tbs_91 _ rfl) rfl ?_
  refine ev_iadd (pc1 := 29) (TBof tbs_91 _ rfl) rfl ?_
  refine ev_iload_n (pc1 := 30) rfl (TBof tbs_91 _ rfl) rfl ?_
  refine ev_iastore (pc1 := 31) (n := 168) (TBof tbs_91 _ rfl) rfl ltc_74 sh_74 H.1 ?_
  replace H := H.2
  refine ev_aload_n (pc1 := 32) rfl rfl (TBof tbs_91 _ rfl) rfl ?_
  refine ev_getP (pc1 := 35) (ci := 4) (k := 0) (a := 74) (TBof tbs_91 _ rfl) rfl (fldof mo_91 fl_4_7) ltc_73 sh_73 nk_4_0 fp_4_0 (by decide) pf_73_0 ?_
  refine ev_iload (pc1 := 37) rfl (TBof tbs_91 _ rfl) rfl ?_
  refine ev_iconst (pc1 := 38) (x := 2) (by decide) (TBof tbs_91 _ rfl) rfl ?_
  refine ev_iadd (pc1 := 39) (TBof tbs_91 _ rfl) rfl ?_
  refine ev_iload_n (pc1 := 40) rfl (TBof tbs_91 _ rfl) rfl ?_
  refine ev_iconst (pc1 := 41) (x := 1) (by decide) (TBof tbs_91 _ rfl) rfl ?_
  refine ev_icmp (pc1 := 44) (t := 49) (TBof tbs_91 _ rfl) (by decide) rfl (fun c2 => ?_) (fun c2 => ?_)
  · replace H := H.1 c2
    refine ev_iload_n (pc1 := 50) rfl (TBof tbs_91 _ rfl) rfl ?_
    refine ev_goto (pc1 := 55) (TBof tbs_91 _ rfl) (by decide) ?_
    exact ev_le [1, 2, 3, 4, 5, 0] rfl rfl H
  · replace H := H.2 c2
    refine ev_iload_n (pc1 := 45) rfl (TBof tbs_91 _ rfl) rfl ?_
    refine ev_iconst (pc1 := 46) (x := 2) (by decide) (TBof tbs_91 _ rfl) rfl ?_
    refine ev_icmp (pc1 := 49) (t := 53) (TBof tbs_91 _ rfl) (by decide) rfl (fun c3 => ?_) (fun c3 => ?_)
    · replace H := H.1 c3
      refine ev_bipush (pc1 := 55) (x := (-5)) (by decide) (TBof tbs_91 _ rfl) rfl ?_
      exact ev_le [1, 2, 3, 4, 5, 0] rfl rfl H
    · replace H := H.2 c3
      refine ev_iload_n (pc1 := 50) rfl (TBof tbs_91 _ rfl) rfl ?_
      refine ev_goto (pc1 := 55) (TBof tbs_91 _ rfl) (by decide) ?_
      exact ev_le [1, 2, 3, 4, 5, 0] rfl rfl H
set_option maxRecDepth 100000 in
theorem R_X4_goBuild_55 {d : Nat} {v1 v2 v3 v4 v5 s0 s1 : Int32} {M : Im} {h : Hm} {D : Dm} {Q : Int32 → Im → Hm → Dm → Prop} (H : vp_in s1 168 ∧ (vp_in (v5 + 3) 168 ∧ (vp_in 0 168 ∧ (vp_in 0 168 ∧ (∀ M1 : Im, M1 = up2 (up2 (up2 M 74 (s1.toNatClampNeg) s0) 74 ((v5 + 3).toNatClampNeg) v4) 74 ((0 : Int32).toNatClampNeg) (((up2 (up2 M 74 (s1.toNatClampNeg) s0) 74 ((v5 + 3).toNatClampNeg) v4) 74 ((0 : Int32).toNatClampNeg)) + 1) → (vp_in 0 168 ∧ (Q ((M1 74 ((0 : Int32).toNatClampNeg)) - 1) M1 h D))))))) : EvI d nX4_goBuild 55 [(0, .ref 73), (1, .int v1), (2, .int v2), (3, .int v3), (4, .int v4), (5, .int v5)] [.int s0, .int s1, .ref 74] M h D Q := by
  refine ev_iastore (pc1 := 56) (n := 168) (TBof tbs_91 _ rfl) rfl ltc_74 sh_74 H.1 ?_
  replace H := H.2
  refine ev_aload_n (pc1 := 57) rfl rfl (TBof tbs_91 _ rfl) rfl ?_
  refine ev_getP (pc1 := 60) (ci := 4) (k := 0) (a := 74) (TBof tbs_91 _ rfl) rfl (fldof mo_91 fl_4_7) ltc_73 sh_73 nk_4_0 fp_4_0 (by decide) pf_73_0 ?_
  refine ev_iload (pc1 := 62) rfl (TBof tbs_91 _ rfl) rfl ?_
  refine ev_iconst (pc1 := 63) (x := 3) (by decide) (TBof tbs_91 _ rfl) rfl ?_
  refine ev_iadd (pc1 := 64) (TBof tbs_91 _ rfl) rfl ?_
  refine ev_iload (pc1 := 66) rfl (TBof tbs_91 _ rfl) rfl ?_
  refine ev_iastore (pc1 := 67) (n := 168) (TBof tbs_91 _ rfl) rfl ltc_74 sh_74 H.1 ?_
  replace H := H.2
  refine ev_aload_n (pc1 := 68) rfl rfl (TBof tbs_91 _ rfl) rfl ?_
  refine ev_getP (pc1 := 71) (ci := 4) (k := 0) (a := 74) (TBof tbs_91 _ rfl) rfl (fldof mo_91 fl_4_7) ltc_73 sh_73 nk_4_0 fp_4_0 (by decide) pf_73_0 ?_
  refine ev_iconst (pc1 := 72) (x := 0) (by decide) (TBof tbs_91 _ rfl) rfl ?_
  refine ev_dup2 (pc1 := 73) rfl rfl (TBof tbs_91 _ rfl) rfl ?_
  refine ev_iaload (pc1 := 74) (n := 168) (TBof tbs_91 _ rfl) rfl ltc_74 sh_74 H.1 ?_
  replace H := H.2
  refine ev_iconst (pc1 := 75) (x := 1) (by decide) (TBof tbs_91 _ rfl) rfl ?_
  refine ev_iadd (pc1 := 76) (TBof tbs_91 _ rfl) rfl ?_
  refine ev_iastore (pc1 := 77) (n := 168) (TBof tbs_91 _ rfl) rfl ltc_74 sh_74 H.1 ?_
  replace H := H.2
  generalize e1 : up2 (up2 (up2 M 74 (s1.toNatClampNeg) s0) 74 ((v5 + 3).toNatClampNeg) v4) 74 ((0 : Int32).toNatClampNeg) (((up2 (up2 M 74 (s1.toNatClampNeg) s0) 74 ((v5 + 3).toNatClampNeg) v4) 74 ((0 : Int32).toNatClampNeg)) + 1) = M1
  replace H := H M1 e1.symm
  refine ev_aload_n (pc1 := 78) rfl rfl (TBof tbs_91 _ rfl) rfl ?_
  refine ev_getP (pc1 := 81) (ci := 4) (k := 0) (a := 74) (TBof tbs_91 _ rfl) rfl (fldof mo_91 fl_4_7) ltc_73 sh_73 nk_4_0 fp_4_0 (by decide) pf_73_0 ?_
  refine ev_iconst (pc1 := 82) (x := 0) (by decide) (TBof tbs_91 _ rfl) rfl ?_
  refine ev_iaload (pc1 := 83) (n := 168) (TBof tbs_91 _ rfl) rfl ltc_74 sh_74 H.1 ?_
  replace H := H.2
  refine ev_iconst (pc1 := 84) (x := 1) (by decide) (TBof tbs_91 _ rfl) rfl ?_
  refine ev_isub (pc1 := 85) (TBof tbs_91 _ rfl) rfl ?_
  exact ev_ireturn (TBof tbs_91 _ rfl) (retI_i rt_91) ⟨_, rfl, H⟩
set_option maxRecDepth 100000 in
theorem R_X4_build_0 {d : Nat} {v1 v2 v3 v4 : Int32} {M : Im} {h : Hm} {D : Dm} {Q : Int32 → Im → Hm → Dm → Prop} (H : ((v1 = (-5)) → (EvI d nX4_build 16 [(0, .ref 73), (1, .int v1), (2, .int v2), (3, .int v3), (4, .int v4)] [] M h D Q)) ∧ (¬ (v1 = (-5)) → (CI d nX4_isDrawer [.ref 73, .int v1] M h D (fun x2 M2 h2 D2 => ((¬ (x2 = 0)) → (EvI d nX4_build 16 [(0, .ref 73), (1, .int v1), (2, .int v2), (3, .int v3), (4, .int v4)] [] M2 h2 D2 Q)) ∧ (¬ (¬ (x2 = 0)) → (Q (-1) M2 h2 D2)))))) : EvI d nX4_build 0 [(0, .ref 73), (1, .int v1), (2, .int v2), (3, .int v3), (4, .int v4)] [] M h D Q := by
  refine ev_iload_n (pc1 := 1) rfl (TBof tbs_92 _ rfl) rfl ?_
  refine ev_bipush (pc1 := 3) (x := (-5)) (by decide) (TBof tbs_92 _ rfl) rfl ?_
  refine ev_icmp (pc1 := 6) (t := 16) (TBof tbs_92 _ rfl) (by decide) rfl (fun c1 => ?_) (fun c1 => ?_)
  · replace H := H.1 c1
    exact ev_le [0, 1, 2, 3, 4] rfl rfl H
  · replace H := H.2 c1
    refine ev_aload_n (pc1 := 7) rfl rfl (TBof tbs_92 _ rfl) rfl ?_
    refine ev_iload_n (pc1 := 8) rfl (TBof tbs_92 _ rfl) rfl ?_
    refine ev_callvI (pc1 := 11) (as := [.int v1]) (r := []) (TBof tbs_92 _ rfl) rfl (lnkof mo_92 ln_4_58) rfl na_88 ltc_73 (sh_73.trans (by rw [mo_88])) (Nat.le_of_ble_eq_true rfl) H (fun x2 M2 h2 D2 H => ?_)
    refine ev_if (pc1 := 14) (t := 16) (TBof tbs_92 _ rfl) (by decide) rfl (fun c3 => ?_) (fun c3 => ?_)
    · replace H := H.1 c3
      exact ev_le [0, 1, 2, 3, 4] rfl rfl H
    · replace H := H.2 c3
      refine ev_iconst (pc1 := 15) (x := (-1)) (by decide) (TBof tbs_92 _ rfl) rfl ?_
      exact ev_ireturn (TBof tbs_92 _ rfl) (retI_i rt_92) ⟨_, rfl, H⟩
set_option maxRecDepth 100000 in
theorem R_X4_build_16 {d : Nat} {v1 v2 v3 v4 : Int32} {M : Im} {h : Hm} {D : Dm} {Q : Int32 → Im → Hm → Dm → Prop} (H : CI d nX4_in [.int v2, .int 0, .int 3] M h D (fun x1 M1 h1 D1 => ((x1 = 0) → (Q (-2) M1 h1 D1)) ∧ (¬ (x1 = 0) → (CI d nX4_in [.int v4, .int 0, .int 9] M1 h1 D1 (fun x3 M3 h3 D3 => ((x3 = 0) → (Q (-2) M3 h3 D3)) ∧ (¬ (x3 = 0) → (((¬ (v2 = 1)) → (((¬ (v2 = 2)) → (EvI d nX4_build 69 [(0, .ref 73), (1, .int v1), (2, .int v2), (3, .int v3), (4, .int v4)] [] M3 h3 D3 Q)) ∧ (¬ (¬ (v2 = 2)) → (CI d nX4_in [.int v3, .int 0, .int 15] M3 h3 D3 (fun x7 M7 h7 D7 => ((¬ (x7 = 0)) → (EvI d nX4_build 69 [(0, .ref 73), (1, .int v1), (2, .int v2), (3, .int v3), (4, .int v4)] [] M7 h7 D7 Q)) ∧ (¬ (¬ (x7 = 0)) → (Q (-2) M7 h7 D7))))))) ∧ (¬ (¬ (v2 = 1)) → (CI d nX4_in [.int v3, .int 0, .int 9] M3 h3 D3 (fun x9 M9 h9 D9 => ((x9 = 0) → (Q (-2) M9 h9 D9)) ∧ (¬ (x9 = 0) → (((¬ (v2 = 2)) → (EvI d nX4_build 69 [(0, .ref 73), (1, .int v1), (2, .int v2), (3, .int v3), (4, .int v4)] [] M9 h9 D9 Q)) ∧ (¬ (¬ (v2 = 2)) → (CI d nX4_in [.int v3, .int 0, .int 15] M9 h9 D9 (fun x12 M12 h12 D12 => ((¬ (x12 = 0)) → (EvI d nX4_build 69 [(0, .ref 73), (1, .int v1), (2, .int v2), (3, .int v3), (4, .int v4)] [] M12 h12 D12 Q)) ∧ (¬ (¬ (x12 = 0)) → (Q (-2) M12 h12 D12))))))))))))))))) : EvI d nX4_build 16 [(0, .ref 73), (1, .int v1), (2, .int v2), (3, .int v3), (4, .int v4)] [] M h D Q := by
  refine ev_iload_n (pc1 := 17) rfl (TBof tbs_92 _ rfl) rfl ?_
  refine ev_iconst (pc1 := 18) (x := 0) (by decide) (TBof tbs_92 _ rfl) rfl ?_
  refine ev_iconst (pc1 := 19) (x := 3) (by decide) (TBof tbs_92 _ rfl) rfl ?_
  refine ev_callsI (pc1 := 22) (as := [.int v2, .int 0, .int 3]) (r := []) (TBof tbs_92 _ rfl) rfl (lnkof mo_92 ln_4_51) (Or.inl rfl) rfl na_84 (Nat.le_of_ble_eq_true rfl) H (fun x1 M1 h1 D1 H => ?_)
  refine ev_if (pc1 := 25) (t := 66) (TBof tbs_92 _ rfl) (by decide) rfl (fun c2 => ?_) (fun c2 => ?_)
  · replace H := H.1 c2
    refine ev_bipush (pc1 := 68) (x := (-2)) (by decide) (TBof tbs_92 _ rfl) rfl ?_
    exact ev_ireturn (TBof tbs_92 _ rfl) (retI_i rt_92) ⟨_, rfl, H⟩
  · replace H := H.2 c2
    refine ev_iload (pc1 := 27) rfl (TBof tbs_92 _ rfl) rfl ?_
    refine ev_iconst (pc1 := 28) (x := 0) (by decide) (TBof tbs_92 _ rfl) rfl ?_
    refine ev_bipush (pc1 := 30) (x := 9) (by decide) (TBof tbs_92 _ rfl) rfl ?_
    refine ev_callsI (pc1 := 33) (as := [.int v4, .int 0, .int 9]) (r := []) (TBof tbs_92 _ rfl) rfl (lnkof mo_92 ln_4_51) (Or.inl rfl) rfl na_84 (Nat.le_of_ble_eq_true rfl) H (fun x3 M3 h3 D3 H => ?_)
    refine ev_if (pc1 := 36) (t := 66) (TBof tbs_92 _ rfl) (by decide) rfl (fun c4 => ?_) (fun c4 => ?_)
    · replace H := H.1 c4
      refine ev_bipush (pc1 := 68) (x := (-2)) (by decide) (TBof tbs_92 _ rfl) rfl ?_
      exact ev_ireturn (TBof tbs_92 _ rfl) (retI_i rt_92) ⟨_, rfl, H⟩
    · replace H := H.2 c4
      refine ev_iload_n (pc1 := 37) rfl (TBof tbs_92 _ rfl) rfl ?_
      refine ev_iconst (pc1 := 38) (x := 1) (by decide) (TBof tbs_92 _ rfl) rfl ?_
      refine ev_icmp (pc1 := 41) (t := 51) (TBof tbs_92 _ rfl) (by decide) rfl (fun c5 => ?_) (fun c5 => ?_)
      · replace H := H.1 c5
        refine ev_iload_n (pc1 := 52) rfl (TBof tbs_92 _ rfl) rfl ?_
        refine ev_iconst (pc1 := 53) (x := 2) (by decide) (TBof tbs_92 _ rfl) rfl ?_
        refine ev_icmp (pc1 := 56) (t := 69) (TBof tbs_92 _ rfl) (by decide) rfl (fun c6 => ?_) (fun c6 => ?_)
        · replace H := H.1 c6
          exact ev_le [0, 1, 2, 3, 4] rfl rfl H
        · replace H := H.2 c6
          refine ev_iload_n (pc1 := 57) rfl (TBof tbs_92 _ rfl) rfl ?_
          refine ev_iconst (pc1 := 58) (x := 0) (by decide) (TBof tbs_92 _ rfl) rfl ?_
          refine ev_bipush (pc1 := 60) (x := 15) (by decide) (TBof tbs_92 _ rfl) rfl ?_
          refine ev_callsI (pc1 := 63) (as := [.int v3, .int 0, .int 15]) (r := []) (TBof tbs_92 _ rfl) rfl (lnkof mo_92 ln_4_51) (Or.inl rfl) rfl na_84 (Nat.le_of_ble_eq_true rfl) H (fun x7 M7 h7 D7 H => ?_)
          refine ev_if (pc1 := 66) (t := 69) (TBof tbs_92 _ rfl) (by decide) rfl (fun c8 => ?_) (fun c8 => ?_)
          · replace H := H.1 c8
            exact ev_le [0, 1, 2, 3, 4] rfl rfl H
          · replace H := H.2 c8
            refine ev_bipush (pc1 := 68) (x := (-2)) (by decide) (TBof tbs_92 _ rfl) rfl ?_
            exact ev_ireturn (TBof tbs_92 _ rfl) (retI_i rt_92) ⟨_, rfl, H⟩
      · replace H := H.2 c5
        refine ev_iload_n (pc1 := 42) rfl (TBof tbs_92 _ rfl) rfl ?_
        refine ev_iconst (pc1 := 43) (x := 0) (by decide) (TBof tbs_92 _ rfl) rfl ?_
        refine ev_bipush (pc1 := 45) (x := 9) (by decide) (TBof tbs_92 _ rfl) rfl ?_
        refine ev_callsI (pc1 := 48) (as := [.int v3, .int 0, .int 9]) (r := []) (TBof tbs_92 _ rfl) rfl (lnkof mo_92 ln_4_51) (Or.inl rfl) rfl na_84 (Nat.le_of_ble_eq_true rfl) H (fun x9 M9 h9 D9 H => ?_)
        refine ev_if (pc1 := 51) (t := 66) (TBof tbs_92 _ rfl) (by decide) rfl (fun c10 => ?_) (fun c10 => ?_)
        · replace H := H.1 c10
          refine ev_bipush (pc1 := 68) (x := (-2)) (by decide) (TBof tbs_92 _ rfl) rfl ?_
          exact ev_ireturn (TBof tbs_92 _ rfl) (retI_i rt_92) ⟨_, rfl, H⟩
        · replace H := H.2 c10
          refine ev_iload_n (pc1 := 52) rfl (TBof tbs_92 _ rfl) rfl ?_
          refine ev_iconst (pc1 := 53) (x := 2) (by decide) (TBof tbs_92 _ rfl) rfl ?_
          refine ev_icmp (pc1 := 56) (t := 69) (TBof tbs_92 _ rfl) (by decide) rfl (fun c11 => ?_) (fun c11 => ?_)
          · replace H := H.1 c11
            exact ev_le [0, 1, 2, 3, 4] rfl rfl H
          · replace H := H.2 c11
            refine ev_iload_n (pc1 := 57) rfl (TBof tbs_92 _ rfl) rfl ?_
            refine ev_iconst (pc1 := 58) (x := 0) (by decide) (TBof tbs_92 _ rfl) rfl ?_
            refine ev_bipush (pc1 := 60) (x := 15) (by decide) (TBof tbs_92 _ rfl) rfl ?_
            refine ev_callsI (pc1 := 63) (as := [.int v3, .int 0, .int 15]) (r := []) (TBof tbs_92 _ rfl) rfl (lnkof mo_92 ln_4_51) (Or.inl rfl) rfl na_84 (Nat.le_of_ble_eq_true rfl) H (fun x12 M12 h12 D12 H => ?_)
            refine ev_if (pc1 := 66) (t := 69) (TBof tbs_92 _ rfl) (by decide) rfl (fun c13 => ?_) (fun c13 => ?_)
            · replace H := H.1 c13
              exact ev_le [0, 1, 2, 3, 4] rfl rfl H
            · replace H := H.2 c13
              refine ev_bipush (pc1 := 68) (x := (-2)) (by decide) (TBof tbs_92 _ rfl) rfl ?_
              exact ev_ireturn (TBof tbs_92 _ rfl) (retI_i rt_92) ⟨_, rfl, H⟩
set_option maxRecDepth 100000 in
theorem R_X4_build_69 {d : Nat} {v1 v2 v3 v4 : Int32} {M : Im} {h : Hm} {D : Dm} {Q : Int32 → Im → Hm → Dm → Prop} (H : vp_in 0 168 ∧ (((¬ ((M 74 ((0 : Int32).toNatClampNeg)) = 16)) → (CI d nX4_isGame [.ref 73] M h D (fun x2 M2 h2 D2 => ((x2 = 0) → (CV d nX4_record [.ref 73] M2 h2 D2 (fun M4 h4 D4 => CI d nX4_goBuild [.ref 73, .int v1, .int v2, .int v3, .int v4] M4 h4 D4 (fun x5 M5 h5 D5 => Q x5 M5 h5 D5)))) ∧ (¬ (x2 = 0) → (Q (-4) M2 h2 D2))))) ∧ (¬ (¬ ((M 74 ((0 : Int32).toNatClampNeg)) = 16)) → (Q (-3) M h D)))) : EvI d nX4_build 69 [(0, .ref 73), (1, .int v1), (2, .int v2), (3, .int v3), (4, .int v4)] [] M h D Q := by
  refine ev_aload_n (pc1 := 70) rfl rfl (TBof tbs_92 _ rfl) rfl ?_
  refine ev_getP (pc1 := 73) (ci := 4) (k := 0) (a := 74) (TBof tbs_92 _ rfl) rfl (fldof mo_92 fl_4_7) ltc_73 sh_73 nk_4_0 fp_4_0 (by decide) pf_73_0 ?_
  refine ev_iconst (pc1 := 74) (x := 0) (by decide) (TBof tbs_92 _ rfl) rfl ?_
  refine ev_iaload (pc1 := 75) (n := 168) (TBof tbs_92 _ rfl) rfl ltc_74 sh_74 H.1 ?_
  replace H := H.2
  refine ev_bipush (pc1 := 77) (x := 16) (by decide) (TBof tbs_92 _ rfl) rfl ?_
  refine ev_icmp (pc1 := 80) (t := 83) (TBof tbs_92 _ rfl) (by decide) rfl (fun c1 => ?_) (fun c1 => ?_)
  · replace H := H.1 c1
    refine ev_aload_n (pc1 := 84) rfl rfl (TBof tbs_92 _ rfl) rfl ?_
    refine ev_callvI (pc1 := 87) (as := []) (r := []) (TBof tbs_92 _ rfl) rfl (lnkof mo_92 ln_4_62) rfl na_89 ltc_73 (sh_73.trans (by rw [mo_89])) (Nat.le_of_ble_eq_true rfl) H (fun x2 M2 h2 D2 H => ?_)
    refine ev_if (pc1 := 90) (t := 93) (TBof tbs_92 _ rfl) (by decide) rfl (fun c3 => ?_) (fun c3 => ?_)
    · replace H := H.1 c3
      refine ev_aload_n (pc1 := 94) rfl rfl (TBof tbs_92 _ rfl) rfl ?_
      refine ev_callvV (pc1 := 97) (as := []) (r := []) (TBof tbs_92 _ rfl) rfl (lnkof mo_92 ln_4_66) rfl na_87 ltc_73 (sh_73.trans (by rw [mo_87])) (Nat.le_of_ble_eq_true rfl) H (fun M4 h4 D4 H => ?_)
      refine ev_aload_n (pc1 := 98) rfl rfl (TBof tbs_92 _ rfl) rfl ?_
      refine ev_iload_n (pc1 := 99) rfl (TBof tbs_92 _ rfl) rfl ?_
      refine ev_iload_n (pc1 := 100) rfl (TBof tbs_92 _ rfl) rfl ?_
      refine ev_iload_n (pc1 := 101) rfl (TBof tbs_92 _ rfl) rfl ?_
      refine ev_iload (pc1 := 103) rfl (TBof tbs_92 _ rfl) rfl ?_
      refine ev_callvI (pc1 := 106) (as := [.int v1, .int v2, .int v3, .int v4]) (r := []) (TBof tbs_92 _ rfl) rfl (lnkof mo_92 ln_4_69) rfl na_91 ltc_73 (sh_73.trans (by rw [mo_91])) (Nat.le_of_ble_eq_true rfl) H (fun x5 M5 h5 D5 H => ?_)
      exact ev_ireturn (TBof tbs_92 _ rfl) (retI_i rt_92) ⟨_, rfl, H⟩
    · replace H := H.2 c3
      refine ev_bipush (pc1 := 92) (x := (-4)) (by decide) (TBof tbs_92 _ rfl) rfl ?_
      exact ev_ireturn (TBof tbs_92 _ rfl) (retI_i rt_92) ⟨_, rfl, H⟩
  · replace H := H.2 c1
    refine ev_bipush (pc1 := 82) (x := (-3)) (by decide) (TBof tbs_92 _ rfl) rfl ?_
    exact ev_ireturn (TBof tbs_92 _ rfl) (retI_i rt_92) ⟨_, rfl, H⟩
set_option maxRecDepth 100000 in
theorem R_X4_isSign_0 {d : Nat} {v1 v2 v3 : Int32} {M : Im} {h : Hm} {D : Dm} {Q : Int32 → Im → Hm → Dm → Prop} (H : (((M 73 10) ≤ v1) → (Q 0 M h D)) ∧ (¬ ((M 73 10) ≤ v1) → (vp_in v1 60 ∧ ((((M 83 (v1.toNatClampNeg)) < v2) → (Q 0 M h D)) ∧ (¬ ((M 83 (v1.toNatClampNeg)) < v2) → (vp_in v1 60 ∧ (((v3 < (M 83 (v1.toNatClampNeg))) → (Q 0 M h D)) ∧ (¬ (v3 < (M 83 (v1.toNatClampNeg))) → (Q 1 M h D))))))))) : EvI d nX4_isSign 0 [(0, .ref 73), (1, .int v1), (2, .int v2), (3, .int v3)] [] M h D Q := by
  refine ev_iload_n (pc1 := 1) rfl (TBof tbs_93 _ rfl) rfl ?_
  refine ev_aload_n (pc1 := 2) rfl rfl (TBof tbs_93 _ rfl) rfl ?_
  refine ev_getI (pc1 := 5) (ci := 4) (k := 10) (TBof tbs_93 _ rfl) rfl (fldof mo_93 fl_4_73) ltc_73 sh_73 nk_4_10 fi_4_10 ?_
  refine ev_icmp (pc1 := 8) (t := 32) (TBof tbs_93 _ rfl) (by decide) rfl (fun c1 => ?_) (fun c1 => ?_)
  · replace H := H.1 c1
    refine ev_iconst (pc1 := 33) (x := 0) (by decide) (TBof tbs_93 _ rfl) rfl ?_
    exact ev_ireturn (TBof tbs_93 _ rfl) (retI_z rt_93 (Or.inl rfl)) ⟨_, rfl, H⟩
  · replace H := H.2 c1
    refine ev_aload_n (pc1 := 9) rfl rfl (TBof tbs_93 _ rfl) rfl ?_
    refine ev_getP (pc1 := 12) (ci := 4) (k := 9) (a := 83) (TBof tbs_93 _ rfl) rfl (fldof mo_93 fl_4_39) ltc_73 sh_73 nk_4_9 fp_4_9 (by decide) pf_73_9 ?_
    refine ev_iload_n (pc1 := 13) rfl (TBof tbs_93 _ rfl) rfl ?_
    refine ev_caload (pc1 := 14) (n := 60) (TBof tbs_93 _ rfl) rfl ltc_83 sh_83 H.1 ?_
    replace H := H.2
    refine ev_iload_n (pc1 := 15) rfl (TBof tbs_93 _ rfl) rfl ?_
    refine ev_icmp (pc1 := 18) (t := 32) (TBof tbs_93 _ rfl) (by decide) rfl (fun c2 => ?_) (fun c2 => ?_)
    · replace H := H.1 c2
      refine ev_iconst (pc1 := 33) (x := 0) (by decide) (TBof tbs_93 _ rfl) rfl ?_
      exact ev_ireturn (TBof tbs_93 _ rfl) (retI_z rt_93 (Or.inl rfl)) ⟨_, rfl, H⟩
    · replace H := H.2 c2
      refine ev_aload_n (pc1 := 19) rfl rfl (TBof tbs_93 _ rfl) rfl ?_
      refine ev_getP (pc1 := 22) (ci := 4) (k := 9) (a := 83) (TBof tbs_93 _ rfl) rfl (fldof mo_93 fl_4_39) ltc_73 sh_73 nk_4_9 fp_4_9 (by decide) pf_73_9 ?_
      refine ev_iload_n (pc1 := 23) rfl (TBof tbs_93 _ rfl) rfl ?_
      refine ev_caload (pc1 := 24) (n := 60) (TBof tbs_93 _ rfl) rfl ltc_83 sh_83 H.1 ?_
      replace H := H.2
      refine ev_iload_n (pc1 := 25) rfl (TBof tbs_93 _ rfl) rfl ?_
      refine ev_icmp (pc1 := 28) (t := 32) (TBof tbs_93 _ rfl) (by decide) rfl (fun c3 => ?_) (fun c3 => ?_)
      · replace H := H.1 c3
        refine ev_iconst (pc1 := 33) (x := 0) (by decide) (TBof tbs_93 _ rfl) rfl ?_
        exact ev_ireturn (TBof tbs_93 _ rfl) (retI_z rt_93 (Or.inl rfl)) ⟨_, rfl, H⟩
      · replace H := H.2 c3
        refine ev_iconst (pc1 := 29) (x := 1) (by decide) (TBof tbs_93 _ rfl) rfl ?_
        refine ev_goto (pc1 := 33) (TBof tbs_93 _ rfl) (by decide) ?_
        exact ev_ireturn (TBof tbs_93 _ rfl) (retI_z rt_93 (Or.inr rfl)) ⟨_, rfl, H⟩
set_option maxRecDepth 100000 in
theorem R_X4_readsNumber_0 {d : Nat} {M : Im} {h : Hm} {D : Dm} {Q : Int32 → Im → Hm → Dm → Prop} (H : CI d nX4_isSign [.ref 73, .int (M 73 14), .int 48, .int 57] M h D (fun x1 M1 h1 D1 => ((¬ (x1 = 0)) → (vp_in (M1 73 14) 60 ∧ (((¬ (((M1 83 ((M1 73 14).toNatClampNeg)) - 48) = 1)) → (Q ((M1 83 ((M1 73 14).toNatClampNeg)) - 48) (up2 M1 73 14 ((M1 73 14) + 1)) h1 D1)) ∧ (¬ (¬ (((M1 83 ((M1 73 14).toNatClampNeg)) - 48) = 1)) → (CI d nX4_isSign [.ref 73, .int ((up2 M1 73 14 ((M1 73 14) + 1)) 73 14), .int 48, .int 53] (up2 M1 73 14 ((M1 73 14) + 1)) h1 D1 (fun x4 M4 h4 D4 => ((x4 = 0) → (Q ((M1 83 ((M1 73 14).toNatClampNeg)) - 48) M4 h4 D4)) ∧ (¬ (x4 = 0) → (vp_in (M4 73 14) 60 ∧ (Q ((10 + (M4 83 ((M4 73 14).toNatClampNeg))) - 48) (up2 M4 73 14 ((M4 73 14) + 1)) h4 D4))))))))) ∧ (¬ (¬ (x1 = 0)) → (Q (-1) M1 h1 D1)))) : EvI d nX4_readsNumber 0 [(0, .ref 73)] [] M h D Q := by
  refine ev_aload_n (pc1 := 1) rfl rfl (TBof tbs_94 _ rfl) rfl ?_
  refine ev_aload_n (pc1 := 2) rfl rfl (TBof tbs_94 _ rfl) rfl ?_
  refine ev_getI (pc1 := 5) (ci := 4) (k := 14) (TBof tbs_94 _ rfl) rfl (fldof mo_94 fl_4_76) ltc_73 sh_73 nk_4_14 fi_4_14 ?_
  refine ev_bipush (pc1 := 7) (x := 48) (by decide) (TBof tbs_94 _ rfl) rfl ?_
  refine ev_bipush (pc1 := 9) (x := 57) (by decide) (TBof tbs_94 _ rfl) rfl ?_
  refine ev_callvI (pc1 := 12) (as := [.int (M 73 14), .int 48, .int 57]) (r := []) (TBof tbs_94 _ rfl) rfl (lnkof mo_94 ln_4_79) rfl na_93 ltc_73 (sh_73.trans (by rw [mo_93])) (Nat.le_of_ble_eq_true rfl) H (fun x1 M1 h1 D1 H => ?_)
  refine ev_if (pc1 := 15) (t := 17) (TBof tbs_94 _ rfl) (by decide) rfl (fun c2 => ?_) (fun c2 => ?_)
  · replace H := H.1 c2
    refine ev_aload_n (pc1 := 18) rfl rfl (TBof tbs_94 _ rfl) rfl ?_
    refine ev_getP (pc1 := 21) (ci := 4) (k := 9) (a := 83) (TBof tbs_94 _ rfl) rfl (fldof mo_94 fl_4_39) ltc_73 sh_73 nk_4_9 fp_4_9 (by decide) pf_73_9 ?_
    refine ev_aload_n (pc1 := 22) rfl rfl (TBof tbs_94 _ rfl) rfl ?_
    refine ev_getI (pc1 := 25) (ci := 4) (k := 14) (TBof tbs_94 _ rfl) rfl (fldof mo_94 fl_4_76) ltc_73 sh_73 nk_4_14 fi_4_14 ?_
    refine ev_caload (pc1 := 26) (n := 60) (TBof tbs_94 _ rfl) rfl ltc_83 sh_83 H.1 ?_
    replace H := H.2
    refine ev_bipush (pc1 := 28) (x := 48) (by decide) (TBof tbs_94 _ rfl) rfl ?_
    refine ev_isub (pc1 := 29) (TBof tbs_94 _ rfl) rfl ?_
    refine ev_istore_n (pc1 := 30) (L1 := [(1, .int ((M1 83 ((M1 73 14).toNatClampNeg)) - 48)), (0, .ref 73)]) (by rw [ml_94]; decide) rfl (TBof tbs_94 _ rfl) rfl ?_
    refine ev_aload_n (pc1 := 31) rfl rfl (TBof tbs_94 _ rfl) rfl ?_
    refine ev_dup (pc1 := 32) rfl (TBof tbs_94 _ rfl) rfl ?_
    refine ev_getI (pc1 := 35) (ci := 4) (k := 14) (TBof tbs_94 _ rfl) rfl (fldof mo_94 fl_4_76) ltc_73 sh_73 nk_4_14 fi_4_14 ?_
    refine ev_iconst (pc1 := 36) (x := 1) (by decide) (TBof tbs_94 _ rfl) rfl ?_
    refine ev_iadd (pc1 := 37) (TBof tbs_94 _ rfl) rfl ?_
    refine ev_putI (pc1 := 40) (ci := 4) (k := 14) (TBof tbs_94 _ rfl) rfl (fldof mo_94 fl_4_76) ltc_73 sh_73 nk_4_14 rfl rfl ?_
    refine ev_iload_n (pc1 := 41) rfl (TBof tbs_94 _ rfl) rfl ?_
    refine ev_iconst (pc1 := 42) (x := 1) (by decide) (TBof tbs_94 _ rfl) rfl ?_
    refine ev_icmp (pc1 := 45) (t := 86) (TBof tbs_94 _ rfl) (by decide) rfl (fun c3 => ?_) (fun c3 => ?_)
    · replace H := H.1 c3
      refine ev_iload_n (pc1 := 87) rfl (TBof tbs_94 _ rfl) rfl ?_
      exact ev_ireturn (TBof tbs_94 _ rfl) (retI_i rt_94) ⟨_, rfl, H⟩
    · replace H := H.2 c3
      refine ev_aload_n (pc1 := 46) rfl rfl (TBof tbs_94 _ rfl) rfl ?_
      refine ev_aload_n (pc1 := 47) rfl rfl (TBof tbs_94 _ rfl) rfl ?_
      refine ev_getI (pc1 := 50) (ci := 4) (k := 14) (TBof tbs_94 _ rfl) rfl (fldof mo_94 fl_4_76) ltc_73 sh_73 nk_4_14 fi_4_14 ?_
      refine ev_bipush (pc1 := 52) (x := 48) (by decide) (TBof tbs_94 _ rfl) rfl ?_
      refine ev_bipush (pc1 := 54) (x := 53) (by decide) (TBof tbs_94 _ rfl) rfl ?_
      refine ev_callvI (pc1 := 57) (as := [.int ((up2 M1 73 14 ((M1 73 14) + 1)) 73 14), .int 48, .int 53]) (r := []) (TBof tbs_94 _ rfl) rfl (lnkof mo_94 ln_4_79) rfl na_93 ltc_73 (sh_73.trans (by rw [mo_93])) (Nat.le_of_ble_eq_true rfl) H (fun x4 M4 h4 D4 H => ?_)
      refine ev_if (pc1 := 60) (t := 86) (TBof tbs_94 _ rfl) (by decide) rfl (fun c5 => ?_) (fun c5 => ?_)
      · replace H := H.1 c5
        refine ev_iload_n (pc1 := 87) rfl (TBof tbs_94 _ rfl) rfl ?_
        exact ev_ireturn (TBof tbs_94 _ rfl) (retI_i rt_94) ⟨_, rfl, H⟩
      · replace H := H.2 c5
        refine ev_bipush (pc1 := 62) (x := 10) (by decide) (TBof tbs_94 _ rfl) rfl ?_
        refine ev_aload_n (pc1 := 63) rfl rfl (TBof tbs_94 _ rfl) rfl ?_
        refine ev_getP (pc1 := 66) (ci := 4) (k := 9) (a := 83) (TBof tbs_94 _ rfl) rfl (fldof mo_94 fl_4_39) ltc_73 sh_73 nk_4_9 fp_4_9 (by decide) pf_73_9 ?_
        refine ev_aload_n (pc1 := 67) rfl rfl (TBof tbs_94 _ rfl) rfl ?_
        refine ev_getI (pc1 := 70) (ci := 4) (k := 14) (TBof tbs_94 _ rfl) rfl (fldof mo_94 fl_4_76) ltc_73 sh_73 nk_4_14 fi_4_14 ?_
        refine ev_caload (pc1 := 71) (n := 60) (TBof tbs_94 _ rfl) rfl ltc_83 sh_83 H.1 ?_
        replace H := H.2
        refine ev_iadd (pc1 := 72) (TBof tbs_94 _ rfl) rfl ?_
        refine ev_bipush (pc1 := 74) (x := 48) (by decide) (TBof tbs_94 _ rfl) rfl ?_
        refine ev_isub (pc1 := 75) (TBof tbs_94 _ rfl) rfl ?_
        refine ev_istore_n (pc1 := 76) (L1 := [(1, .int ((10 + (M4 83 ((M4 73 14).toNatClampNeg))) - 48)), (0, .ref 73)]) (by rw [ml_94]; decide) rfl (TBof tbs_94 _ rfl) rfl ?_
        refine ev_aload_n (pc1 := 77) rfl rfl (TBof tbs_94 _ rfl) rfl ?_
        refine ev_dup (pc1 := 78) rfl (TBof tbs_94 _ rfl) rfl ?_
        refine ev_getI (pc1 := 81) (ci := 4) (k := 14) (TBof tbs_94 _ rfl) rfl (fldof mo_94 fl_4_76) ltc_73 sh_73 nk_4_14 fi_4_14 ?_
        refine ev_iconst (pc1 := 82) (x := 1) (by decide) (TBof tbs_94 _ rfl) rfl ?_
        refine ev_iadd (pc1 := 83) (TBof tbs_94 _ rfl) rfl ?_
        refine ev_putI (pc1 := 86) (ci := 4) (k := 14) (TBof tbs_94 _ rfl) rfl (fldof mo_94 fl_4_76) ltc_73 sh_73 nk_4_14 rfl rfl ?_
        refine ev_iload_n (pc1 := 87) rfl (TBof tbs_94 _ rfl) rfl ?_
        exact ev_ireturn (TBof tbs_94 _ rfl) (retI_i rt_94) ⟨_, rfl, H⟩
  · replace H := H.2 c2
    refine ev_iconst (pc1 := 16) (x := (-1)) (by decide) (TBof tbs_94 _ rfl) rfl ?_
    exact ev_ireturn (TBof tbs_94 _ rfl) (retI_i rt_94) ⟨_, rfl, H⟩
set_option maxRecDepth 100000 in
theorem R_X4_readsHold_0 {d : Nat} {v1 : Int32} {M : Im} {h : Hm} {D : Dm} {Q : Int32 → Im → Hm → Dm → Prop} (H : (((M 73 10) ≤ (M 73 14)) → (EvI d nX4_readsHold 25 [(0, .ref 73), (1, .int v1)] [.int 32] M h D Q)) ∧ (¬ ((M 73 10) ≤ (M 73 14)) → (vp_in (M 73 14) 60 ∧ (EvI d nX4_readsHold 25 [(0, .ref 73), (1, .int v1)] [.int (M 83 ((M 73 14).toNatClampNeg))] M h D Q)))) : EvI d nX4_readsHold 0 [(0, .ref 73), (1, .int v1)] [] M h D Q := by
  refine ev_aload_n (pc1 := 1) rfl rfl (TBof tbs_95 _ rfl) rfl ?_
  refine ev_getI (pc1 := 4) (ci := 4) (k := 14) (TBof tbs_95 _ rfl) rfl (fldof mo_95 fl_4_76) ltc_73 sh_73 nk_4_14 fi_4_14 ?_
  refine ev_aload_n (pc1 := 5) rfl rfl (TBof tbs_95 _ rfl) rfl ?_
  refine ev_getI (pc1 := 8) (ci := 4) (k := 10) (TBof tbs_95 _ rfl) rfl (fldof mo_95 fl_4_73) ltc_73 sh_73 nk_4_10 fi_4_10 ?_
  refine ev_icmp (pc1 := 11) (t := 23) (TBof tbs_95 _ rfl) (by decide) rfl (fun c1 => ?_) (fun c1 => ?_)
  · replace H := H.1 c1
    refine ev_bipush (pc1 := 25) (x := 32) (by decide) (TBof tbs_95 _ rfl) rfl ?_
    exact ev_le [0, 1] rfl rfl H
  · replace H := H.2 c1
    refine ev_aload_n (pc1 := 12) rfl rfl (TBof tbs_95 _ rfl) rfl ?_
    refine ev_getP (pc1 := 15) (ci := 4) (k := 9) (a := 83) (TBof tbs_95 _ rfl) rfl (fldof mo_95 fl_4_39) ltc_73 sh_73 nk_4_9 fp_4_9 (by decide) pf_73_9 ?_
    refine ev_aload_n (pc1 := 16) rfl rfl (TBof tbs_95 _ rfl) rfl ?_
    refine ev_getI (pc1 := 19) (ci := 4) (k := 14) (TBof tbs_95 _ rfl) rfl (fldof mo_95 fl_4_76) ltc_73 sh_73 nk_4_14 fi_4_14 ?_
    refine ev_caload (pc1 := 20) (n := 60) (TBof tbs_95 _ rfl) rfl ltc_83 sh_83 H.1 ?_
    replace H := H.2
    refine ev_goto (pc1 := 25) (TBof tbs_95 _ rfl) (by decide) ?_
    exact ev_le [0, 1] rfl rfl H
set_option maxRecDepth 100000 in
theorem R_X4_readsHold_25 {d : Nat} {v1 s0 : Int32} {M : Im} {h : Hm} {D : Dm} {Q : Int32 → Im → Hm → Dm → Prop} (H : ((¬ (s0 = 104)) → (((¬ (s0 = 107)) → (((¬ (s0 = 108)) → (((¬ (s0 = 115)) → (EvI d nX4_readsHold 74 [(0, .ref 73), (1, .int v1), (2, .int s0)] [.int (-1), .int (v1 + 1), .ref 82] M h D Q)) ∧ (¬ (¬ (s0 = 115)) → (EvI d nX4_readsHold 74 [(0, .ref 73), (1, .int v1), (2, .int s0)] [.int 3, .int (v1 + 1), .ref 82] M h D Q)))) ∧ (¬ (¬ (s0 = 108)) → (EvI d nX4_readsHold 74 [(0, .ref 73), (1, .int v1), (2, .int s0)] [.int 2, .int (v1 + 1), .ref 82] M h D Q)))) ∧ (¬ (¬ (s0 = 107)) → (EvI d nX4_readsHold 74 [(0, .ref 73), (1, .int v1), (2, .int s0)] [.int 1, .int (v1 + 1), .ref 82] M h D Q)))) ∧ (¬ (¬ (s0 = 104)) → (EvI d nX4_readsHold 74 [(0, .ref 73), (1, .int v1), (2, .int s0)] [.int 0, .int (v1 + 1), .ref 82] M h D Q))) : EvI d nX4_readsHold 25 [(0, .ref 73), (1, .int v1)] [.int s0] M h D Q := by
  refine ev_istore_n (pc1 := 26) (L1 := [(2, .int s0), (0, .ref 73), (1, .int v1)]) (by rw [ml_95]; decide) rfl (TBof tbs_95 _ rfl) rfl ?_
  refine ev_aload_n (pc1 := 27) rfl rfl (TBof tbs_95 _ rfl) rfl ?_
  refine ev_getP (pc1 := 30) (ci := 4) (k := 8) (a := 82) (TBof tbs_95 _ rfl) rfl (fldof mo_95 fl_4_36) ltc_73 sh_73 nk_4_8 fp_4_8 (by decide) pf_73_8 ?_
  refine ev_iload_n (pc1 := 31) rfl (TBof tbs_95 _ rfl) rfl ?_
  refine ev_iconst (pc1 := 32) (x := 1) (by decide) (TBof tbs_95 _ rfl) rfl ?_
  refine ev_iadd (pc1 := 33) (TBof tbs_95 _ rfl) rfl ?_
  refine ev_iload_n (pc1 := 34) rfl (TBof tbs_95 _ rfl) rfl ?_
  refine ev_bipush (pc1 := 36) (x := 104) (by decide) (TBof tbs_95 _ rfl) rfl ?_
  refine ev_icmp (pc1 := 39) (t := 43) (TBof tbs_95 _ rfl) (by decide) rfl (fun c1 => ?_) (fun c1 => ?_)
  · replace H := H.1 c1
    refine ev_iload_n (pc1 := 44) rfl (TBof tbs_95 _ rfl) rfl ?_
    refine ev_bipush (pc1 := 46) (x := 107) (by decide) (TBof tbs_95 _ rfl) rfl ?_
    refine ev_icmp (pc1 := 49) (t := 53) (TBof tbs_95 _ rfl) (by decide) rfl (fun c2 => ?_) (fun c2 => ?_)
    · replace H := H.1 c2
      refine ev_iload_n (pc1 := 54) rfl (TBof tbs_95 _ rfl) rfl ?_
      refine ev_bipush (pc1 := 56) (x := 108) (by decide) (TBof tbs_95 _ rfl) rfl ?_
      refine ev_icmp (pc1 := 59) (t := 63) (TBof tbs_95 _ rfl) (by decide) rfl (fun c3 => ?_) (fun c3 => ?_)
      · replace H := H.1 c3
        refine ev_iload_n (pc1 := 64) rfl (TBof tbs_95 _ rfl) rfl ?_
        refine ev_bipush (pc1 := 66) (x := 115) (by decide) (TBof tbs_95 _ rfl) rfl ?_
        refine ev_icmp (pc1 := 69) (t := 73) (TBof tbs_95 _ rfl) (by decide) rfl (fun c4 => ?_) (fun c4 => ?_)
        · replace H := H.1 c4
          refine ev_iconst (pc1 := 74) (x := (-1)) (by decide) (TBof tbs_95 _ rfl) rfl ?_
          exact ev_le [1, 2, 0] rfl rfl H
        · replace H := H.2 c4
          refine ev_iconst (pc1 := 70) (x := 3) (by decide) (TBof tbs_95 _ rfl) rfl ?_
          refine ev_goto (pc1 := 74) (TBof tbs_95 _ rfl) (by decide) ?_
          exact ev_le [1, 2, 0] rfl rfl H
      · replace H := H.2 c3
        refine ev_iconst (pc1 := 60) (x := 2) (by decide) (TBof tbs_95 _ rfl) rfl ?_
        refine ev_goto (pc1 := 74) (TBof tbs_95 _ rfl) (by decide) ?_
        exact ev_le [1, 2, 0] rfl rfl H
    · replace H := H.2 c2
      refine ev_iconst (pc1 := 50) (x := 1) (by decide) (TBof tbs_95 _ rfl) rfl ?_
      refine ev_goto (pc1 := 74) (TBof tbs_95 _ rfl) (by decide) ?_
      exact ev_le [1, 2, 0] rfl rfl H
  · replace H := H.2 c1
    refine ev_iconst (pc1 := 40) (x := 0) (by decide) (TBof tbs_95 _ rfl) rfl ?_
    refine ev_goto (pc1 := 74) (TBof tbs_95 _ rfl) (by decide) ?_
    exact ev_le [1, 2, 0] rfl rfl H
set_option maxRecDepth 100000 in
theorem R_X4_readsHold_74 {d : Nat} {v1 v2 s0 s1 : Int32} {M : Im} {h : Hm} {D : Dm} {Q : Int32 → Im → Hm → Dm → Prop} (H : vp_in s1 128 ∧ (vp_in (v1 + 2) 128 ∧ (vp_in (v1 + 1) 128 ∧ (((0 ≤ ((up2 (up2 M 82 (s1.toNatClampNeg) s0) 82 ((v1 + 2).toNatClampNeg) (-5)) 82 ((v1 + 1).toNatClampNeg))) → (∀ M2 : Im, M2 = up2 (up2 (up2 M 82 (s1.toNatClampNeg) s0) 82 ((v1 + 2).toNatClampNeg) (-5)) 73 14 (((up2 (up2 M 82 (s1.toNatClampNeg) s0) 82 ((v1 + 2).toNatClampNeg) (-5)) 73 14) + 1) → (((¬ (v2 = 107)) → (((¬ (v2 = 108)) → (EvI d nX4_readsHold 179 [(0, .ref 73), (1, .int v1), (2, .int v2)] [] M2 h D Q)) ∧ (¬ (¬ (v2 = 108)) → (CI d nX4_readsNumber [.ref 73] M2 h D (fun x5 M5 h5 D5 => vp_in (v1 + 2) 128 ∧ (EvI d nX4_readsHold 179 [(0, .ref 73), (1, .int v1), (2, .int v2)] [] (up2 M5 82 ((v1 + 2).toNatClampNeg) x5) h5 D5 Q)))))) ∧ (¬ (¬ (v2 = 107)) → (CI d nX4_isSign [.ref 73, .int (M2 73 14), .int 48, .int 57] M2 h D (fun x6 M6 h6 D6 => ((¬ (x6 = 0)) → (vp_in (M6 73 14) 60 ∧ (vp_in (v1 + 2) 128 ∧ (∀ M8 : Im, M8 = up2 (up2 M6 82 ((v1 + 2).toNatClampNeg) ((M6 83 ((M6 73 14).toNatClampNeg)) - 48)) 73 14 (((up2 M6 82 ((v1 + 2).toNatClampNeg) ((M6 83 ((M6 73 14).toNatClampNeg)) - 48)) 73 14) + 1) → (((¬ (v2 = 108)) → (EvI d nX4_readsHold 179 [(0, .ref 73), (1, .int v1), (2, .int v2)] [] M8 h6 D6 Q)) ∧ (¬ (¬ (v2 = 108)) → (CI d nX4_readsNumber [.ref 73] M8 h6 D6 (fun x10 M10 h10 D10 => vp_in (v1 + 2) 128 ∧ (EvI d nX4_readsHold 179 [(0, .ref 73), (1, .int v1), (2, .int v2)] [] (up2 M10 82 ((v1 + 2).toNatClampNeg) x10) h10 D10 Q))))))))) ∧ (¬ (¬ (x6 = 0)) → (Q 0 M6 h6 D6)))))))) ∧ (¬ (0 ≤ ((up2 (up2 M 82 (s1.toNatClampNeg) s0) 82 ((v1 + 2).toNatClampNeg) (-5)) 82 ((v1 + 1).toNatClampNeg))) → (Q 0 (up2 (up2 M 82 (s1.toNatClampNeg) s0) 82 ((v1 + 2).toNatClampNeg) (-5)) h D)))))) : EvI d nX4_readsHold 74 [(0, .ref 73), (1, .int v1), (2, .int v2)] [.int s0, .int s1, .ref 82] M h D Q := by
  refine ev_iastore (pc1 := 75) (n := 128) (TBof tbs_95 _ rfl) rfl ltc_82 sh_82 H.1 ?_
  replace H := H.2
  refine ev_aload_n (pc1 := 76) rfl rfl (TBof tbs_95 _ rfl) rfl ?_
  refine ev_getP (pc1 := 79) (ci := 4) (k := 8) (a := 82) (TBof tbs_95 _ rfl) rfl (fldof mo_95 fl_4_36) ltc_73 sh_73 nk_4_8 fp_4_8 (by decide) pf_73_8 ?_
  refine ev_iload_n (pc1 := 80) rfl (TBof tbs_95 _ rfl) rfl ?_
  refine ev_iconst (pc1 := 81) (x := 2) (by decide) (TBof tbs_95 _ rfl) rfl ?_
  refine ev_iadd (pc1 := 82) (TBof tbs_95 _ rfl) rfl ?_
  refine ev_bipush (pc1 := 84) (x := (-5)) (by decide) (TBof tbs_95 _ rfl) rfl ?_
  refine ev_iastore (pc1 := 85) (n := 128) (TBof tbs_95 _ rfl) rfl ltc_82 sh_82 H.1 ?_
  replace H := H.2
  refine ev_aload_n (pc1 := 86) rfl rfl (TBof tbs_95 _ rfl) rfl ?_
  refine ev_getP (pc1 := 89) (ci := 4) (k := 8) (a := 82) (TBof tbs_95 _ rfl) rfl (fldof mo_95 fl_4_36) ltc_73 sh_73 nk_4_8 fp_4_8 (by decide) pf_73_8 ?_
  refine ev_iload_n (pc1 := 90) rfl (TBof tbs_95 _ rfl) rfl ?_
  refine ev_iconst (pc1 := 91) (x := 1) (by decide) (TBof tbs_95 _ rfl) rfl ?_
  refine ev_iadd (pc1 := 92) (TBof tbs_95 _ rfl) rfl ?_
  refine ev_iaload (pc1 := 93) (n := 128) (TBof tbs_95 _ rfl) rfl ltc_82 sh_82 H.1 ?_
  replace H := H.2
  refine ev_if (pc1 := 96) (t := 98) (TBof tbs_95 _ rfl) (by decide) rfl (fun c1 => ?_) (fun c1 => ?_)
  · replace H := H.1 c1
    refine ev_aload_n (pc1 := 99) rfl rfl (TBof tbs_95 _ rfl) rfl ?_
    refine ev_dup (pc1 := 100) rfl (TBof tbs_95 _ rfl) rfl ?_
    refine ev_getI (pc1 := 103) (ci := 4) (k := 14) (TBof tbs_95 _ rfl) rfl (fldof mo_95 fl_4_76) ltc_73 sh_73 nk_4_14 fi_4_14 ?_
    refine ev_iconst (pc1 := 104) (x := 1) (by decide) (TBof tbs_95 _ rfl) rfl ?_
    refine ev_iadd (pc1 := 105) (TBof tbs_95 _ rfl) rfl ?_
    refine ev_putI (pc1 := 108) (ci := 4) (k := 14) (TBof tbs_95 _ rfl) rfl (fldof mo_95 fl_4_76) ltc_73 sh_73 nk_4_14 rfl rfl ?_
    generalize e2 : up2 (up2 (up2 M 82 (s1.toNatClampNeg) s0) 82 ((v1 + 2).toNatClampNeg) (-5)) 73 14 (((up2 (up2 M 82 (s1.toNatClampNeg) s0) 82 ((v1 + 2).toNatClampNeg) (-5)) 73 14) + 1) = M2
    replace H := H M2 e2.symm
    refine ev_iload_n (pc1 := 109) rfl (TBof tbs_95 _ rfl) rfl ?_
    refine ev_bipush (pc1 := 111) (x := 107) (by decide) (TBof tbs_95 _ rfl) rfl ?_
    refine ev_icmp (pc1 := 114) (t := 161) (TBof tbs_95 _ rfl) (by decide) rfl (fun c3 => ?_) (fun c3 => ?_)
    · replace H := H.1 c3
      refine ev_iload_n (pc1 := 162) rfl (TBof tbs_95 _ rfl) rfl ?_
      refine ev_bipush (pc1 := 164) (x := 108) (by decide) (TBof tbs_95 _ rfl) rfl ?_
      refine ev_icmp (pc1 := 167) (t := 179) (TBof tbs_95 _ rfl) (by decide) rfl (fun c4 => ?_) (fun c4 => ?_)
      · replace H := H.1 c4
        exact ev_le [0, 1, 2] rfl rfl H
      · replace H := H.2 c4
        refine ev_aload_n (pc1 := 168) rfl rfl (TBof tbs_95 _ rfl) rfl ?_
        refine ev_getP (pc1 := 171) (ci := 4) (k := 8) (a := 82) (TBof tbs_95 _ rfl) rfl (fldof mo_95 fl_4_36) ltc_73 sh_73 nk_4_8 fp_4_8 (by decide) pf_73_8 ?_
        refine ev_iload_n (pc1 := 172) rfl (TBof tbs_95 _ rfl) rfl ?_
        refine ev_iconst (pc1 := 173) (x := 2) (by decide) (TBof tbs_95 _ rfl) rfl ?_
        refine ev_iadd (pc1 := 174) (TBof tbs_95 _ rfl) rfl ?_
        refine ev_aload_n (pc1 := 175) rfl rfl (TBof tbs_95 _ rfl) rfl ?_
        refine ev_callvI (pc1 := 178) (as := []) (r := [.int (v1 + 2), .ref 82]) (TBof tbs_95 _ rfl) rfl (lnkof mo_95 ln_4_83) rfl na_94 ltc_73 (sh_73.trans (by rw [mo_94])) (Nat.le_of_ble_eq_true rfl) H (fun x5 M5 h5 D5 H => ?_)
        refine ev_iastore (pc1 := 179) (n := 128) (TBof tbs_95 _ rfl) rfl ltc_82 sh_82 H.1 ?_
        replace H := H.2
        exact ev_le [0, 1, 2] rfl rfl H
    · replace H := H.2 c3
      refine ev_aload_n (pc1 := 115) rfl rfl (TBof tbs_95 _ rfl) rfl ?_
      refine ev_aload_n (pc1 := 116) rfl rfl (TBof tbs_95 _ rfl) rfl ?_
      refine ev_getI (pc1 := 119) (ci := 4) (k := 14) (TBof tbs_95 _ rfl) rfl (fldof mo_95 fl_4_76) ltc_73 sh_73 nk_4_14 fi_4_14 ?_
      refine ev_bipush (pc1 := 121) (x := 48) (by decide) (TBof tbs_95 _ rfl) rfl ?_
      refine ev_bipush (pc1 := 123) (x := 57) (by decide) (TBof tbs_95 _ rfl) rfl ?_
      refine ev_callvI (pc1 := 126) (as := [.int (M2 73 14), .int 48, .int 57]) (r := []) (TBof tbs_95 _ rfl) rfl (lnkof mo_95 ln_4_79) rfl na_93 ltc_73 (sh_73.trans (by rw [mo_93])) (Nat.le_of_ble_eq_true rfl) H (fun x6 M6 h6 D6 H => ?_)
      refine ev_if (pc1 := 129) (t := 131) (TBof tbs_95 _ rfl) (by decide) rfl (fun c7 => ?_) (fun c7 => ?_)
      · replace H := H.1 c7
        refine ev_aload_n (pc1 := 132) rfl rfl (TBof tbs_95 _ rfl) rfl ?_
        refine ev_getP (pc1 := 135) (ci := 4) (k := 8) (a := 82) (TBof tbs_95 _ rfl) rfl (fldof mo_95 fl_4_36) ltc_73 sh_73 nk_4_8 fp_4_8 (by decide) pf_73_8 ?_
        refine ev_iload_n (pc1 := 136) rfl (TBof tbs_95 _ rfl) rfl ?_
        refine ev_iconst (pc1 := 137) (x := 2) (by decide) (TBof tbs_95 _ rfl) rfl ?_
        refine ev_iadd (pc1 := 138) (TBof tbs_95 _ rfl) rfl ?_
        refine ev_aload_n (pc1 := 139) rfl rfl (TBof tbs_95 _ rfl) rfl ?_
        refine ev_getP (pc1 := 142) (ci := 4) (k := 9) (a := 83) (TBof tbs_95 _ rfl) rfl (fldof mo_95 fl_4_39) ltc_73 sh_73 nk_4_9 fp_4_9 (by decide) pf_73_9 ?_
        refine ev_aload_n (pc1 := 143) rfl rfl (TBof tbs_95 _ rfl) rfl ?_
        refine ev_getI (pc1 := 146) (ci := 4) (k := 14) (TBof tbs_95 _ rfl) rfl (fldof mo_95 fl_4_76) ltc_73 sh_73 nk_4_14 fi_4_14 ?_
        refine ev_caload (pc1 := 147) (n := 60) (TBof tbs_95 _ rfl) rfl ltc_83 sh_83 H.1 ?_
        replace H := H.2
        refine ev_bipush (pc1 := 149) (x := 48) (by decide) (TBof tbs_95 _ rfl) rfl ?_
        refine ev_isub (pc1 := 150) (TBof tbs_95 _ rfl) rfl ?_
        refine ev_iastore (pc1 := 151) (n := 128) (TBof tbs_95 _ rfl) rfl ltc_82 sh_82 H.1 ?_
        replace H := H.2
        refine ev_aload_n (pc1 := 152) rfl rfl (TBof tbs_95 _ rfl) rfl ?_
        refine ev_dup (pc1 := 153) rfl (TBof tbs_95 _ rfl) rfl ?_
        refine ev_getI (pc1 := 156) (ci := 4) (k := 14) (TBof tbs_95 _ rfl) rfl (fldof mo_95 fl_4_76) ltc_73 sh_73 nk_4_14 fi_4_14 ?_
        refine ev_iconst (pc1 := 157) (x := 1) (by decide) (TBof tbs_95 _ rfl) rfl ?_
        refine ev_iadd (pc1 := 158) (TBof tbs_95 _ rfl) rfl ?_
        refine ev_putI (pc1 := 161) (ci := 4) (k := 14) (TBof tbs_95 _ rfl) rfl (fldof mo_95 fl_4_76) ltc_73 sh_73 nk_4_14 rfl rfl ?_
        generalize e8 : up2 (up2 M6 82 ((v1 + 2).toNatClampNeg) ((M6 83 ((M6 73 14).toNatClampNeg)) - 48)) 73 14 (((up2 M6 82 ((v1 + 2).toNatClampNeg) ((M6 83 ((M6 73 14).toNatClampNeg)) - 48)) 73 14) + 1) = M8
        replace H := H M8 e8.symm
        refine ev_iload_n (pc1 := 162) rfl (TBof tbs_95 _ rfl) rfl ?_
        refine ev_bipush (pc1 := 164) (x := 108) (by decide) (TBof tbs_95 _ rfl) rfl ?_
        refine ev_icmp (pc1 := 167) (t := 179) (TBof tbs_95 _ rfl) (by decide) rfl (fun c9 => ?_) (fun c9 => ?_)
        · replace H := H.1 c9
          exact ev_le [0, 1, 2] rfl rfl H
        · replace H := H.2 c9
          refine ev_aload_n (pc1 := 168) rfl rfl (TBof tbs_95 _ rfl) rfl ?_
          refine ev_getP (pc1 := 171) (ci := 4) (k := 8) (a := 82) (TBof tbs_95 _ rfl) rfl (fldof mo_95 fl_4_36) ltc_73 sh_73 nk_4_8 fp_4_8 (by decide) pf_73_8 ?_
          refine ev_iload_n (pc1 := 172) rfl (TBof tbs_95 _ rfl) rfl ?_
          refine ev_iconst (pc1 := 173) (x := 2) (by decide) (TBof tbs_95 _ rfl) rfl ?_
          refine ev_iadd (pc1 := 174) (TBof tbs_95 _ rfl) rfl ?_
          refine ev_aload_n (pc1 := 175) rfl rfl (TBof tbs_95 _ rfl) rfl ?_
          refine ev_callvI (pc1 := 178) (as := []) (r := [.int (v1 + 2), .ref 82]) (TBof tbs_95 _ rfl) rfl (lnkof mo_95 ln_4_83) rfl na_94 ltc_73 (sh_73.trans (by rw [mo_94])) (Nat.le_of_ble_eq_true rfl) H (fun x10 M10 h10 D10 H => ?_)
          refine ev_iastore (pc1 := 179) (n := 128) (TBof tbs_95 _ rfl) rfl ltc_82 sh_82 H.1 ?_
          replace H := H.2
          exact ev_le [0, 1, 2] rfl rfl H
      · replace H := H.2 c7
        refine ev_iconst (pc1 := 130) (x := 0) (by decide) (TBof tbs_95 _ rfl) rfl ?_
        exact ev_ireturn (TBof tbs_95 _ rfl) (retI_z rt_95 (Or.inl rfl)) ⟨_, rfl, H⟩
  · replace H := H.2 c1
    refine ev_iconst (pc1 := 97) (x := 0) (by decide) (TBof tbs_95 _ rfl) rfl ?_
    exact ev_ireturn (TBof tbs_95 _ rfl) (retI_z rt_95 (Or.inl rfl)) ⟨_, rfl, H⟩
set_option maxRecDepth 100000 in
theorem R_X4_readsHold_179 {d : Nat} {v1 v2 : Int32} {M : Im} {h : Hm} {D : Dm} {Q : Int32 → Im → Hm → Dm → Prop} (H : ((¬ (v2 = 108)) → (Q 1 M h D)) ∧ (¬ (¬ (v2 = 108)) → (vp_in (v1 + 2) 128 ∧ ((((M 82 ((v1 + 2).toNatClampNeg)) < 0) → (Q 0 M h D)) ∧ (¬ ((M 82 ((v1 + 2).toNatClampNeg)) < 0) → (Q 1 M h D)))))) : EvI d nX4_readsHold 179 [(0, .ref 73), (1, .int v1), (2, .int v2)] [] M h D Q := by
  refine ev_iload_n (pc1 := 180) rfl (TBof tbs_95 _ rfl) rfl ?_
  refine ev_bipush (pc1 := 182) (x := 108) (by decide) (TBof tbs_95 _ rfl) rfl ?_
  refine ev_icmp (pc1 := 185) (t := 196) (TBof tbs_95 _ rfl) (by decide) rfl (fun c1 => ?_) (fun c1 => ?_)
  · replace H := H.1 c1
    refine ev_iconst (pc1 := 197) (x := 1) (by decide) (TBof tbs_95 _ rfl) rfl ?_
    refine ev_goto (pc1 := 201) (TBof tbs_95 _ rfl) (by decide) ?_
    exact ev_ireturn (TBof tbs_95 _ rfl) (retI_z rt_95 (Or.inr rfl)) ⟨_, rfl, H⟩
  · replace H := H.2 c1
    refine ev_aload_n (pc1 := 186) rfl rfl (TBof tbs_95 _ rfl) rfl ?_
    refine ev_getP (pc1 := 189) (ci := 4) (k := 8) (a := 82) (TBof tbs_95 _ rfl) rfl (fldof mo_95 fl_4_36) ltc_73 sh_73 nk_4_8 fp_4_8 (by decide) pf_73_8 ?_
    refine ev_iload_n (pc1 := 190) rfl (TBof tbs_95 _ rfl) rfl ?_
    refine ev_iconst (pc1 := 191) (x := 2) (by decide) (TBof tbs_95 _ rfl) rfl ?_
    refine ev_iadd (pc1 := 192) (TBof tbs_95 _ rfl) rfl ?_
    refine ev_iaload (pc1 := 193) (n := 128) (TBof tbs_95 _ rfl) rfl ltc_82 sh_82 H.1 ?_
    replace H := H.2
    refine ev_if (pc1 := 196) (t := 200) (TBof tbs_95 _ rfl) (by decide) rfl (fun c2 => ?_) (fun c2 => ?_)
    · replace H := H.1 c2
      refine ev_iconst (pc1 := 201) (x := 0) (by decide) (TBof tbs_95 _ rfl) rfl ?_
      exact ev_ireturn (TBof tbs_95 _ rfl) (retI_z rt_95 (Or.inl rfl)) ⟨_, rfl, H⟩
    · replace H := H.2 c2
      refine ev_iconst (pc1 := 197) (x := 1) (by decide) (TBof tbs_95 _ rfl) rfl ?_
      refine ev_goto (pc1 := 201) (TBof tbs_95 _ rfl) (by decide) ?_
      exact ev_ireturn (TBof tbs_95 _ rfl) (retI_z rt_95 (Or.inr rfl)) ⟨_, rfl, H⟩
set_option maxRecDepth 100000 in
theorem R_X4_readsDrawer_0 {d : Nat} {M : Im} {h : Hm} {D : Dm} {Q : Int32 → Im → Hm → Dm → Prop} (H : CI d nX4_isSign [.ref 73, .int (M 73 14), .int 99, .int 99] M h D (fun x1 M1 h1 D1 => ((x1 = 0) → (CI d nX4_readsNumber [.ref 73] M1 h1 D1 (fun x3 M3 h3 D3 => vp_in (4 * (M 73 15)) 128 ∧ (vp_in (4 * (M 73 15)) 128 ∧ (((0 ≤ ((up2 M3 82 ((4 * (M 73 15)).toNatClampNeg) x3) 82 ((4 * (M 73 15)).toNatClampNeg))) → (EvI d nX4_readsDrawer 64 [(0, .ref 73), (1, .int (4 * (M 73 15)))] [] (up2 M3 82 ((4 * (M 73 15)).toNatClampNeg) x3) h3 D3 Q)) ∧ (¬ (0 ≤ ((up2 M3 82 ((4 * (M 73 15)).toNatClampNeg) x3) 82 ((4 * (M 73 15)).toNatClampNeg))) → (Q 0 (up2 M3 82 ((4 * (M 73 15)).toNatClampNeg) x3) h3 D3))))))) ∧ (¬ (x1 = 0) → (vp_in (4 * (M 73 15)) 128 ∧ (∀ M5 : Im, M5 = up2 (up2 M1 82 ((4 * (M 73 15)).toNatClampNeg) (-5)) 73 14 (((up2 M1 82 ((4 * (M 73 15)).toNatClampNeg) (-5)) 73 14) + 1) → (EvI d nX4_readsDrawer 64 [(0, .ref 73), (1, .int (4 * (M 73 15)))] [] M5 h1 D1 Q)))))) : EvI d nX4_readsDrawer 0 [(0, .ref 73)] [] M h D Q := by
  refine ev_iconst (pc1 := 1) (x := 4) (by decide) (TBof tbs_96 _ rfl) rfl ?_
  refine ev_aload_n (pc1 := 2) rfl rfl (TBof tbs_96 _ rfl) rfl ?_
  refine ev_getI (pc1 := 5) (ci := 4) (k := 15) (TBof tbs_96 _ rfl) rfl (fldof mo_96 fl_4_87) ltc_73 sh_73 nk_4_15 fi_4_15 ?_
  refine ev_imul (pc1 := 6) (TBof tbs_96 _ rfl) rfl ?_
  refine ev_istore_n (pc1 := 7) (L1 := [(1, .int (4 * (M 73 15))), (0, .ref 73)]) (by rw [ml_96]; decide) rfl (TBof tbs_96 _ rfl) rfl ?_
  refine ev_aload_n (pc1 := 8) rfl rfl (TBof tbs_96 _ rfl) rfl ?_
  refine ev_aload_n (pc1 := 9) rfl rfl (TBof tbs_96 _ rfl) rfl ?_
  refine ev_getI (pc1 := 12) (ci := 4) (k := 14) (TBof tbs_96 _ rfl) rfl (fldof mo_96 fl_4_76) ltc_73 sh_73 nk_4_14 fi_4_14 ?_
  refine ev_bipush (pc1 := 14) (x := 99) (by decide) (TBof tbs_96 _ rfl) rfl ?_
  refine ev_bipush (pc1 := 16) (x := 99) (by decide) (TBof tbs_96 _ rfl) rfl ?_
  refine ev_callvI (pc1 := 19) (as := [.int (M 73 14), .int 99, .int 99]) (r := []) (TBof tbs_96 _ rfl) rfl (lnkof mo_96 ln_4_79) rfl na_93 ltc_73 (sh_73.trans (by rw [mo_93])) (Nat.le_of_ble_eq_true rfl) H (fun x1 M1 h1 D1 H => ?_)
  refine ev_if (pc1 := 22) (t := 43) (TBof tbs_96 _ rfl) (by decide) rfl (fun c2 => ?_) (fun c2 => ?_)
  · replace H := H.1 c2
    refine ev_aload_n (pc1 := 44) rfl rfl (TBof tbs_96 _ rfl) rfl ?_
    refine ev_getP (pc1 := 47) (ci := 4) (k := 8) (a := 82) (TBof tbs_96 _ rfl) rfl (fldof mo_96 fl_4_36) ltc_73 sh_73 nk_4_8 fp_4_8 (by decide) pf_73_8 ?_
    refine ev_iload_n (pc1 := 48) rfl (TBof tbs_96 _ rfl) rfl ?_
    refine ev_aload_n (pc1 := 49) rfl rfl (TBof tbs_96 _ rfl) rfl ?_
    refine ev_callvI (pc1 := 52) (as := []) (r := [.int (4 * (M 73 15)), .ref 82]) (TBof tbs_96 _ rfl) rfl (lnkof mo_96 ln_4_83) rfl na_94 ltc_73 (sh_73.trans (by rw [mo_94])) (Nat.le_of_ble_eq_true rfl) H (fun x3 M3 h3 D3 H => ?_)
    refine ev_iastore (pc1 := 53) (n := 128) (TBof tbs_96 _ rfl) rfl ltc_82 sh_82 H.1 ?_
    replace H := H.2
    refine ev_aload_n (pc1 := 54) rfl rfl (TBof tbs_96 _ rfl) rfl ?_
    refine ev_getP (pc1 := 57) (ci := 4) (k := 8) (a := 82) (TBof tbs_96 _ rfl) rfl (fldof mo_96 fl_4_36) ltc_73 sh_73 nk_4_8 fp_4_8 (by decide) pf_73_8 ?_
    refine ev_iload_n (pc1 := 58) rfl (TBof tbs_96 _ rfl) rfl ?_
    refine ev_iaload (pc1 := 59) (n := 128) (TBof tbs_96 _ rfl) rfl ltc_82 sh_82 H.1 ?_
    replace H := H.2
    refine ev_if (pc1 := 62) (t := 64) (TBof tbs_96 _ rfl) (by decide) rfl (fun c4 => ?_) (fun c4 => ?_)
    · replace H := H.1 c4
      exact ev_le [1, 0] rfl rfl H
    · replace H := H.2 c4
      refine ev_iconst (pc1 := 63) (x := 0) (by decide) (TBof tbs_96 _ rfl) rfl ?_
      exact ev_ireturn (TBof tbs_96 _ rfl) (retI_z rt_96 (Or.inl rfl)) ⟨_, rfl, H⟩
  · replace H := H.2 c2
    refine ev_aload_n (pc1 := 23) rfl rfl (TBof tbs_96 _ rfl) rfl ?_
    refine ev_getP (pc1 := 26) (ci := 4) (k := 8) (a := 82) (TBof tbs_96 _ rfl) rfl (fldof mo_96 fl_4_36) ltc_73 sh_73 nk_4_8 fp_4_8 (by decide) pf_73_8 ?_
    refine ev_iload_n (pc1 := 27) rfl (TBof tbs_96 _ rfl) rfl ?_
    refine ev_bipush (pc1 := 29) (x := (-5)) (by decide) (TBof tbs_96 _ rfl) rfl ?_
    refine ev_iastore (pc1 := 30) (n := 128) (TBof tbs_96 _ rfl) rfl ltc_82 sh_82 H.1 ?_
    replace H := H.2
    refine ev_aload_n (pc1 := 31) rfl rfl (TBof tbs_96 _ rfl) rfl ?_
    refine ev_dup (pc1 := 32) rfl (TBof tbs_96 _ rfl) rfl ?_
    refine ev_getI (pc1 := 35) (ci := 4) (k := 14) (TBof tbs_96 _ rfl) rfl (fldof mo_96 fl_4_76) ltc_73 sh_73 nk_4_14 fi_4_14 ?_
    refine ev_iconst (pc1 := 36) (x := 1) (by decide) (TBof tbs_96 _ rfl) rfl ?_
    refine ev_iadd (pc1 := 37) (TBof tbs_96 _ rfl) rfl ?_
    refine ev_putI (pc1 := 40) (ci := 4) (k := 14) (TBof tbs_96 _ rfl) rfl (fldof mo_96 fl_4_76) ltc_73 sh_73 nk_4_14 rfl rfl ?_
    generalize e5 : up2 (up2 M1 82 ((4 * (M 73 15)).toNatClampNeg) (-5)) 73 14 (((up2 M1 82 ((4 * (M 73 15)).toNatClampNeg) (-5)) 73 14) + 1) = M5
    replace H := H M5 e5.symm
    refine ev_goto (pc1 := 64) (TBof tbs_96 _ rfl) (by decide) ?_
    exact ev_le [1, 0] rfl rfl H
set_option maxRecDepth 100000 in
theorem R_X4_readsDrawer_64 {d : Nat} {v1 : Int32} {M : Im} {h : Hm} {D : Dm} {Q : Int32 → Im → Hm → Dm → Prop} (H : CI d nX4_readsHold [.ref 73, .int v1] M h D (fun x1 M1 h1 D1 => ((¬ (x1 = 0)) → (vp_in (v1 + 3) 128 ∧ (CI d nX4_isSign [.ref 73, .int ((up2 M1 82 ((v1 + 3).toNatClampNeg) 0) 73 14), .int 42, .int 42] (up2 M1 82 ((v1 + 3).toNatClampNeg) 0) h1 D1 (fun x3 M3 h3 D3 => ((x3 = 0) → (Q 1 (up2 M3 73 15 ((M3 73 15) + 1)) h3 D3)) ∧ (¬ (x3 = 0) → (CI d nX4_isSign [.ref 73, .int ((up2 M3 73 14 ((M3 73 14) + 1)) 73 14), .int 49, .int 51] (up2 M3 73 14 ((M3 73 14) + 1)) h3 D3 (fun x5 M5 h5 D5 => ((¬ (x5 = 0)) → (vp_in (M5 73 14) 60 ∧ (vp_in (v1 + 3) 128 ∧ (∀ M7 : Im, M7 = up2 (up2 M5 82 ((v1 + 3).toNatClampNeg) ((M5 83 ((M5 73 14).toNatClampNeg)) - 48)) 73 14 (((up2 M5 82 ((v1 + 3).toNatClampNeg) ((M5 83 ((M5 73 14).toNatClampNeg)) - 48)) 73 14) + 1) → (Q 1 (up2 M7 73 15 ((M7 73 15) + 1)) h5 D5))))) ∧ (¬ (¬ (x5 = 0)) → (Q 0 M5 h5 D5))))))))) ∧ (¬ (¬ (x1 = 0)) → (Q 0 M1 h1 D1)))) : EvI d nX4_readsDrawer 64 [(0, .ref 73), (1, .int v1)] [] M h D Q := by
  refine ev_aload_n (pc1 := 65) rfl rfl (TBof tbs_96 _ rfl) rfl ?_
  refine ev_iload_n (pc1 := 66) rfl (TBof tbs_96 _ rfl) rfl ?_
  refine ev_callvI (pc1 := 69) (as := [.int v1]) (r := []) (TBof tbs_96 _ rfl) rfl (lnkof mo_96 ln_4_90) rfl na_95 ltc_73 (sh_73.trans (by rw [mo_95])) (Nat.le_of_ble_eq_true rfl) H (fun x1 M1 h1 D1 H => ?_)
  refine ev_if (pc1 := 72) (t := 74) (TBof tbs_96 _ rfl) (by decide) rfl (fun c2 => ?_) (fun c2 => ?_)
  · replace H := H.1 c2
    refine ev_aload_n (pc1 := 75) rfl rfl (TBof tbs_96 _ rfl) rfl ?_
    refine ev_getP (pc1 := 78) (ci := 4) (k := 8) (a := 82) (TBof tbs_96 _ rfl) rfl (fldof mo_96 fl_4_36) ltc_73 sh_73 nk_4_8 fp_4_8 (by decide) pf_73_8 ?_
    refine ev_iload_n (pc1 := 79) rfl (TBof tbs_96 _ rfl) rfl ?_
    refine ev_iconst (pc1 := 80) (x := 3) (by decide) (TBof tbs_96 _ rfl) rfl ?_
    refine ev_iadd (pc1 := 81) (TBof tbs_96 _ rfl) rfl ?_
    refine ev_iconst (pc1 := 82) (x := 0) (by decide) (TBof tbs_96 _ rfl) rfl ?_
    refine ev_iastore (pc1 := 83) (n := 128) (TBof tbs_96 _ rfl) rfl ltc_82 sh_82 H.1 ?_
    replace H := H.2
    refine ev_aload_n (pc1 := 84) rfl rfl (TBof tbs_96 _ rfl) rfl ?_
    refine ev_aload_n (pc1 := 85) rfl rfl (TBof tbs_96 _ rfl) rfl ?_
    refine ev_getI (pc1 := 88) (ci := 4) (k := 14) (TBof tbs_96 _ rfl) rfl (fldof mo_96 fl_4_76) ltc_73 sh_73 nk_4_14 fi_4_14 ?_
    refine ev_bipush (pc1 := 90) (x := 42) (by decide) (TBof tbs_96 _ rfl) rfl ?_
    refine ev_bipush (pc1 := 92) (x := 42) (by decide) (TBof tbs_96 _ rfl) rfl ?_
    refine ev_callvI (pc1 := 95) (as := [.int ((up2 M1 82 ((v1 + 3).toNatClampNeg) 0) 73 14), .int 42, .int 42]) (r := []) (TBof tbs_96 _ rfl) rfl (lnkof mo_96 ln_4_79) rfl na_93 ltc_73 (sh_73.trans (by rw [mo_93])) (Nat.le_of_ble_eq_true rfl) H (fun x3 M3 h3 D3 H => ?_)
    refine ev_if (pc1 := 98) (t := 155) (TBof tbs_96 _ rfl) (by decide) rfl (fun c4 => ?_) (fun c4 => ?_)
    · replace H := H.1 c4
      refine ev_aload_n (pc1 := 156) rfl rfl (TBof tbs_96 _ rfl) rfl ?_
      refine ev_dup (pc1 := 157) rfl (TBof tbs_96 _ rfl) rfl ?_
      refine ev_getI (pc1 := 160) (ci := 4) (k := 15) (TBof tbs_96 _ rfl) rfl (fldof mo_96 fl_4_87) ltc_73 sh_73 nk_4_15 fi_4_15 ?_
      refine ev_iconst (pc1 := 161) (x := 1) (by decide) (TBof tbs_96 _ rfl) rfl ?_
      refine ev_iadd (pc1 := 162) (TBof tbs_96 _ rfl) rfl ?_
      refine ev_putI (pc1 := 165) (ci := 4) (k := 15) (TBof tbs_96 _ rfl) rfl (fldof mo_96 fl_4_87) ltc_73 sh_73 nk_4_15 rfl rfl ?_
      refine ev_iconst (pc1 := 166) (x := 1) (by decide) (TBof tbs_96 _ rfl) rfl ?_
      exact ev_ireturn (TBof tbs_96 _ rfl) (retI_z rt_96 (Or.inr rfl)) ⟨_, rfl, H⟩
    · replace H := H.2 c4
      refine ev_aload_n (pc1 := 99) rfl rfl (TBof tbs_96 _ rfl) rfl ?_
      refine ev_dup (pc1 := 100) rfl (TBof tbs_96 _ rfl) rfl ?_
      refine ev_getI (pc1 := 103) (ci := 4) (k := 14) (TBof tbs_96 _ rfl) rfl (fldof mo_96 fl_4_76) ltc_73 sh_73 nk_4_14 fi_4_14 ?_
      refine ev_iconst (pc1 := 104) (x := 1) (by decide) (TBof tbs_96 _ rfl) rfl ?_
      refine ev_iadd (pc1 := 105) (TBof tbs_96 _ rfl) rfl ?_
      refine ev_putI (pc1 := 108) (ci := 4) (k := 14) (TBof tbs_96 _ rfl) rfl (fldof mo_96 fl_4_76) ltc_73 sh_73 nk_4_14 rfl rfl ?_
      refine ev_aload_n (pc1 := 109) rfl rfl (TBof tbs_96 _ rfl) rfl ?_
      refine ev_aload_n (pc1 := 110) rfl rfl (TBof tbs_96 _ rfl) rfl ?_
      refine ev_getI (pc1 := 113) (ci := 4) (k := 14) (TBof tbs_96 _ rfl) rfl (fldof mo_96 fl_4_76) ltc_73 sh_73 nk_4_14 fi_4_14 ?_
      refine ev_bipush (pc1 := 115) (x := 49) (by decide) (TBof tbs_96 _ rfl) rfl ?_
      refine ev_bipush (pc1 := 117) (x := 51) (by decide) (TBof tbs_96 _ rfl) rfl ?_
      refine ev_callvI (pc1 := 120) (as := [.int ((up2 M3 73 14 ((M3 73 14) + 1)) 73 14), .int 49, .int 51]) (r := []) (TBof tbs_96 _ rfl) rfl (lnkof mo_96 ln_4_79) rfl na_93 ltc_73 (sh_73.trans (by rw [mo_93])) (Nat.le_of_ble_eq_true rfl) H (fun x5 M5 h5 D5 H => ?_)
      refine ev_if (pc1 := 123) (t := 125) (TBof tbs_96 _ rfl) (by decide) rfl (fun c6 => ?_) (fun c6 => ?_)
      · replace H := H.1 c6
        refine ev_aload_n (pc1 := 126) rfl rfl (TBof tbs_96 _ rfl) rfl ?_
        refine ev_getP (pc1 := 129) (ci := 4) (k := 8) (a := 82) (TBof tbs_96 _ rfl) rfl (fldof mo_96 fl_4_36) ltc_73 sh_73 nk_4_8 fp_4_8 (by decide) pf_73_8 ?_
        refine ev_iload_n (pc1 := 130) rfl (TBof tbs_96 _ rfl) rfl ?_
        refine ev_iconst (pc1 := 131) (x := 3) (by decide) (TBof tbs_96 _ rfl) rfl ?_
        refine ev_iadd (pc1 := 132) (TBof tbs_96 _ rfl) rfl ?_
        refine ev_aload_n (pc1 := 133) rfl rfl (TBof tbs_96 _ rfl) rfl ?_
        refine ev_getP (pc1 := 136) (ci := 4) (k := 9) (a := 83) (TBof tbs_96 _ rfl) rfl (fldof mo_96 fl_4_39) ltc_73 sh_73 nk_4_9 fp_4_9 (by decide) pf_73_9 ?_
        refine ev_aload_n (pc1 := 137) rfl rfl (TBof tbs_96 _ rfl) rfl ?_
        refine ev_getI (pc1 := 140) (ci := 4) (k := 14) (TBof tbs_96 _ rfl) rfl (fldof mo_96 fl_4_76) ltc_73 sh_73 nk_4_14 fi_4_14 ?_
        refine ev_caload (pc1 := 141) (n := 60) (TBof tbs_96 _ rfl) rfl ltc_83 sh_83 H.1 ?_
        replace H := H.2
        refine ev_bipush (pc1 := 143) (x := 48) (by decide) (TBof tbs_96 _ rfl) rfl ?_
        refine ev_isub (pc1 := 144) (TBof tbs_96 _ rfl) rfl ?_
        refine ev_iastore (pc1 := 145) (n := 128) (TBof tbs_96 _ rfl) rfl ltc_82 sh_82 H.1 ?_
        replace H := H.2
        refine ev_aload_n (pc1 := 146) rfl rfl (TBof tbs_96 _ rfl) rfl ?_
        refine ev_dup (pc1 := 147) rfl (TBof tbs_96 _ rfl) rfl ?_
        refine ev_getI (pc1 := 150) (ci := 4) (k := 14) (TBof tbs_96 _ rfl) rfl (fldof mo_96 fl_4_76) ltc_73 sh_73 nk_4_14 fi_4_14 ?_
        refine ev_iconst (pc1 := 151) (x := 1) (by decide) (TBof tbs_96 _ rfl) rfl ?_
        refine ev_iadd (pc1 := 152) (TBof tbs_96 _ rfl) rfl ?_
        refine ev_putI (pc1 := 155) (ci := 4) (k := 14) (TBof tbs_96 _ rfl) rfl (fldof mo_96 fl_4_76) ltc_73 sh_73 nk_4_14 rfl rfl ?_
        generalize e7 : up2 (up2 M5 82 ((v1 + 3).toNatClampNeg) ((M5 83 ((M5 73 14).toNatClampNeg)) - 48)) 73 14 (((up2 M5 82 ((v1 + 3).toNatClampNeg) ((M5 83 ((M5 73 14).toNatClampNeg)) - 48)) 73 14) + 1) = M7
        replace H := H M7 e7.symm
        refine ev_aload_n (pc1 := 156) rfl rfl (TBof tbs_96 _ rfl) rfl ?_
        refine ev_dup (pc1 := 157) rfl (TBof tbs_96 _ rfl) rfl ?_
        refine ev_getI (pc1 := 160) (ci := 4) (k := 15) (TBof tbs_96 _ rfl) rfl (fldof mo_96 fl_4_87) ltc_73 sh_73 nk_4_15 fi_4_15 ?_
        refine ev_iconst (pc1 := 161) (x := 1) (by decide) (TBof tbs_96 _ rfl) rfl ?_
        refine ev_iadd (pc1 := 162) (TBof tbs_96 _ rfl) rfl ?_
        refine ev_putI (pc1 := 165) (ci := 4) (k := 15) (TBof tbs_96 _ rfl) rfl (fldof mo_96 fl_4_87) ltc_73 sh_73 nk_4_15 rfl rfl ?_
        refine ev_iconst (pc1 := 166) (x := 1) (by decide) (TBof tbs_96 _ rfl) rfl ?_
        exact ev_ireturn (TBof tbs_96 _ rfl) (retI_z rt_96 (Or.inr rfl)) ⟨_, rfl, H⟩
      · replace H := H.2 c6
        refine ev_iconst (pc1 := 124) (x := 0) (by decide) (TBof tbs_96 _ rfl) rfl ?_
        exact ev_ireturn (TBof tbs_96 _ rfl) (retI_z rt_96 (Or.inl rfl)) ⟨_, rfl, H⟩
  · replace H := H.2 c2
    refine ev_iconst (pc1 := 73) (x := 0) (by decide) (TBof tbs_96 _ rfl) rfl ?_
    exact ev_ireturn (TBof tbs_96 _ rfl) (retI_z rt_96 (Or.inl rfl)) ⟨_, rfl, H⟩
set_option maxRecDepth 100000 in
theorem R_X4_faultOf_0 {d : Nat} {M : Im} {h : Hm} {D : Dm} {Q : Int32 → Im → Hm → Dm → Prop} (H : CI d nX4_readsDrawer [.ref 73] (up2 (up2 M 73 14 0) 73 15 0) h D (fun x1 M1 h1 D1 => EvI d nX4_faultOf 15 [(0, .ref 73), (1, .int x1)] [] M1 h1 D1 Q)) : EvI d nX4_faultOf 0 [(0, .ref 73)] [] M h D Q := by
  refine ev_aload_n (pc1 := 1) rfl rfl (TBof tbs_97 _ rfl) rfl ?_
  refine ev_iconst (pc1 := 2) (x := 0) (by decide) (TBof tbs_97 _ rfl) rfl ?_
  refine ev_putI (pc1 := 5) (ci := 4) (k := 14) (TBof tbs_97 _ rfl) rfl (fldof mo_97 fl_4_76) ltc_73 sh_73 nk_4_14 rfl rfl ?_
  refine ev_aload_n (pc1 := 6) rfl rfl (TBof tbs_97 _ rfl) rfl ?_
  refine ev_iconst (pc1 := 7) (x := 0) (by decide) (TBof tbs_97 _ rfl) rfl ?_
  refine ev_putI (pc1 := 10) (ci := 4) (k := 15) (TBof tbs_97 _ rfl) rfl (fldof mo_97 fl_4_87) ltc_73 sh_73 nk_4_15 rfl rfl ?_
  refine ev_aload_n (pc1 := 11) rfl rfl (TBof tbs_97 _ rfl) rfl ?_
  refine ev_callvI (pc1 := 14) (as := []) (r := []) (TBof tbs_97 _ rfl) rfl (lnkof mo_97 ln_4_93) rfl na_96 ltc_73 (sh_73.trans (by rw [mo_96])) (Nat.le_of_ble_eq_true rfl) H (fun x1 M1 h1 D1 H => ?_)
  refine ev_istore_n (pc1 := 15) (L1 := [(1, .int x1), (0, .ref 73)]) (by rw [ml_97]; decide) rfl (TBof tbs_97 _ rfl) rfl ?_
  exact ev_le [1, 0] rfl rfl H
set_option maxRecDepth 100000 in
theorem R_X4_faultOf_15 {d : Nat} {v1 : Int32} {M : Im} {h : Hm} {D : Dm} {Q : Int32 → Im → Hm → Dm → Prop} (H : ((v1 = 0) → (((v1 = 0) → (Q (M 73 14) M h D)) ∧ (¬ (v1 = 0) → (Q (-1) M h D)))) ∧ (¬ (v1 = 0) → ((((M 73 10) ≤ (M 73 14)) → (((v1 = 0) → (Q (M 73 14) M h D)) ∧ (¬ (v1 = 0) → (Q (-1) M h D)))) ∧ (¬ ((M 73 10) ≤ (M 73 14)) → (vp_in (M 73 14) 60 ∧ (((¬ ((M 83 ((M 73 14).toNatClampNeg)) = 59)) → (EvI d nX4_faultOf 49 [(0, .ref 73), (1, .int v1)] [.int 0] M h D Q)) ∧ (¬ (¬ ((M 83 ((M 73 14).toNatClampNeg)) = 59)) → (EvI d nX4_faultOf 49 [(0, .ref 73), (1, .int v1)] [.int 1] M h D Q)))))))) : EvI d nX4_faultOf 15 [(0, .ref 73), (1, .int v1)] [] M h D Q := by
  refine ev_iload_n (pc1 := 16) rfl (TBof tbs_97 _ rfl) rfl ?_
  refine ev_if (pc1 := 19) (t := 72) (TBof tbs_97 _ rfl) (by decide) rfl (fun c1 => ?_) (fun c1 => ?_)
  · replace H := H.1 c1
    refine ev_iload_n (pc1 := 73) rfl (TBof tbs_97 _ rfl) rfl ?_
    refine ev_if (pc1 := 76) (t := 80) (TBof tbs_97 _ rfl) (by decide) rfl (fun c2 => ?_) (fun c2 => ?_)
    · replace H := H.1 c2
      refine ev_aload_n (pc1 := 81) rfl rfl (TBof tbs_97 _ rfl) rfl ?_
      refine ev_getI (pc1 := 84) (ci := 4) (k := 14) (TBof tbs_97 _ rfl) rfl (fldof mo_97 fl_4_76) ltc_73 sh_73 nk_4_14 fi_4_14 ?_
      exact ev_ireturn (TBof tbs_97 _ rfl) (retI_i rt_97) ⟨_, rfl, H⟩
    · replace H := H.2 c2
      refine ev_iconst (pc1 := 77) (x := (-1)) (by decide) (TBof tbs_97 _ rfl) rfl ?_
      refine ev_goto (pc1 := 84) (TBof tbs_97 _ rfl) (by decide) ?_
      exact ev_ireturn (TBof tbs_97 _ rfl) (retI_i rt_97) ⟨_, rfl, H⟩
  · replace H := H.2 c1
    refine ev_aload_n (pc1 := 20) rfl rfl (TBof tbs_97 _ rfl) rfl ?_
    refine ev_getI (pc1 := 23) (ci := 4) (k := 14) (TBof tbs_97 _ rfl) rfl (fldof mo_97 fl_4_76) ltc_73 sh_73 nk_4_14 fi_4_14 ?_
    refine ev_aload_n (pc1 := 24) rfl rfl (TBof tbs_97 _ rfl) rfl ?_
    refine ev_getI (pc1 := 27) (ci := 4) (k := 10) (TBof tbs_97 _ rfl) rfl (fldof mo_97 fl_4_73) ltc_73 sh_73 nk_4_10 fi_4_10 ?_
    refine ev_icmp (pc1 := 30) (t := 72) (TBof tbs_97 _ rfl) (by decide) rfl (fun c3 => ?_) (fun c3 => ?_)
    · replace H := H.1 c3
      refine ev_iload_n (pc1 := 73) rfl (TBof tbs_97 _ rfl) rfl ?_
      refine ev_if (pc1 := 76) (t := 80) (TBof tbs_97 _ rfl) (by decide) rfl (fun c4 => ?_) (fun c4 => ?_)
      · replace H := H.1 c4
        refine ev_aload_n (pc1 := 81) rfl rfl (TBof tbs_97 _ rfl) rfl ?_
        refine ev_getI (pc1 := 84) (ci := 4) (k := 14) (TBof tbs_97 _ rfl) rfl (fldof mo_97 fl_4_76) ltc_73 sh_73 nk_4_14 fi_4_14 ?_
        exact ev_ireturn (TBof tbs_97 _ rfl) (retI_i rt_97) ⟨_, rfl, H⟩
      · replace H := H.2 c4
        refine ev_iconst (pc1 := 77) (x := (-1)) (by decide) (TBof tbs_97 _ rfl) rfl ?_
        refine ev_goto (pc1 := 84) (TBof tbs_97 _ rfl) (by decide) ?_
        exact ev_ireturn (TBof tbs_97 _ rfl) (retI_i rt_97) ⟨_, rfl, H⟩
    · replace H := H.2 c3
      refine ev_aload_n (pc1 := 31) rfl rfl (TBof tbs_97 _ rfl) rfl ?_
      refine ev_getP (pc1 := 34) (ci := 4) (k := 9) (a := 83) (TBof tbs_97 _ rfl) rfl (fldof mo_97 fl_4_39) ltc_73 sh_73 nk_4_9 fp_4_9 (by decide) pf_73_9 ?_
      refine ev_aload_n (pc1 := 35) rfl rfl (TBof tbs_97 _ rfl) rfl ?_
      refine ev_getI (pc1 := 38) (ci := 4) (k := 14) (TBof tbs_97 _ rfl) rfl (fldof mo_97 fl_4_76) ltc_73 sh_73 nk_4_14 fi_4_14 ?_
      refine ev_caload (pc1 := 39) (n := 60) (TBof tbs_97 _ rfl) rfl ltc_83 sh_83 H.1 ?_
      replace H := H.2
      refine ev_bipush (pc1 := 41) (x := 59) (by decide) (TBof tbs_97 _ rfl) rfl ?_
      refine ev_icmp (pc1 := 44) (t := 48) (TBof tbs_97 _ rfl) (by decide) rfl (fun c5 => ?_) (fun c5 => ?_)
      · replace H := H.1 c5
        refine ev_iconst (pc1 := 49) (x := 0) (by decide) (TBof tbs_97 _ rfl) rfl ?_
        exact ev_le [0, 1] rfl rfl H
      · replace H := H.2 c5
        refine ev_iconst (pc1 := 45) (x := 1) (by decide) (TBof tbs_97 _ rfl) rfl ?_
        refine ev_goto (pc1 := 49) (TBof tbs_97 _ rfl) (by decide) ?_
        exact ev_le [0, 1] rfl rfl H
set_option maxRecDepth 100000 in
theorem R_X4_faultOf_49 {d : Nat} {v1 s0 : Int32} {M : Im} {h : Hm} {D : Dm} {Q : Int32 → Im → Hm → Dm → Prop} (H : ((s0 = 0) → (EvI d nX4_faultOf 15 [(0, .ref 73), (1, .int s0)] [] M h D Q)) ∧ (¬ (s0 = 0) → (CI d nX4_readsDrawer [.ref 73] (up2 M 73 14 ((M 73 14) + 1)) h D (fun x2 M2 h2 D2 => EvI d nX4_faultOf 15 [(0, .ref 73), (1, .int x2)] [] M2 h2 D2 Q)))) : EvI d nX4_faultOf 49 [(0, .ref 73), (1, .int v1)] [.int s0] M h D Q := by
  refine ev_istore_n (pc1 := 50) (L1 := [(1, .int s0), (0, .ref 73)]) (by rw [ml_97]; decide) rfl (TBof tbs_97 _ rfl) rfl ?_
  refine ev_iload_n (pc1 := 51) rfl (TBof tbs_97 _ rfl) rfl ?_
  refine ev_if (pc1 := 54) (t := 15) (TBof tbs_97 _ rfl) (by decide) rfl (fun c1 => ?_) (fun c1 => ?_)
  · replace H := H.1 c1
    exact ev_le [1, 0] rfl rfl H
  · replace H := H.2 c1
    refine ev_aload_n (pc1 := 55) rfl rfl (TBof tbs_97 _ rfl) rfl ?_
    refine ev_dup (pc1 := 56) rfl (TBof tbs_97 _ rfl) rfl ?_
    refine ev_getI (pc1 := 59) (ci := 4) (k := 14) (TBof tbs_97 _ rfl) rfl (fldof mo_97 fl_4_76) ltc_73 sh_73 nk_4_14 fi_4_14 ?_
    refine ev_iconst (pc1 := 60) (x := 1) (by decide) (TBof tbs_97 _ rfl) rfl ?_
    refine ev_iadd (pc1 := 61) (TBof tbs_97 _ rfl) rfl ?_
    refine ev_putI (pc1 := 64) (ci := 4) (k := 14) (TBof tbs_97 _ rfl) rfl (fldof mo_97 fl_4_76) ltc_73 sh_73 nk_4_14 rfl rfl ?_
    refine ev_aload_n (pc1 := 65) rfl rfl (TBof tbs_97 _ rfl) rfl ?_
    refine ev_callvI (pc1 := 68) (as := []) (r := []) (TBof tbs_97 _ rfl) rfl (lnkof mo_97 ln_4_93) rfl na_96 ltc_73 (sh_73.trans (by rw [mo_96])) (Nat.le_of_ble_eq_true rfl) H (fun x2 M2 h2 D2 H => ?_)
    refine ev_istore_n (pc1 := 69) (L1 := [(1, .int x2), (0, .ref 73)]) (by rw [ml_97]; decide) rfl (TBof tbs_97 _ rfl) rfl ?_
    refine ev_goto (pc1 := 15) (TBof tbs_97 _ rfl) (by decide) ?_
    exact ev_le [1, 0] rfl rfl H
set_option maxRecDepth 100000 in
theorem R_X4_buildAll_0 {d : Nat} {M : Im} {h : Hm} {D : Dm} {Q : Int32 → Im → Hm → Dm → Prop} (H : CI d nX4_faultOf [.ref 73] M h D (fun x1 M1 h1 D1 => ((x1 < 0) → (EvI d nX4_buildAll 16 [(0, .ref 73), (1, .int x1), (2, .int 0)] [] M1 h1 D1 Q)) ∧ (¬ (x1 < 0) → (Q ((-100) - x1) M1 h1 D1)))) : EvI d nX4_buildAll 0 [(0, .ref 73)] [] M h D Q := by
  refine ev_aload_n (pc1 := 1) rfl rfl (TBof tbs_98 _ rfl) rfl ?_
  refine ev_callvI (pc1 := 4) (as := []) (r := []) (TBof tbs_98 _ rfl) rfl (lnkof mo_98 ln_4_96) rfl na_97 ltc_73 (sh_73.trans (by rw [mo_97])) (Nat.le_of_ble_eq_true rfl) H (fun x1 M1 h1 D1 H => ?_)
  refine ev_istore_n (pc1 := 5) (L1 := [(1, .int x1), (0, .ref 73)]) (by rw [ml_98]; decide) rfl (TBof tbs_98 _ rfl) rfl ?_
  refine ev_iload_n (pc1 := 6) rfl (TBof tbs_98 _ rfl) rfl ?_
  refine ev_if (pc1 := 9) (t := 14) (TBof tbs_98 _ rfl) (by decide) rfl (fun c2 => ?_) (fun c2 => ?_)
  · replace H := H.1 c2
    refine ev_iconst (pc1 := 15) (x := 0) (by decide) (TBof tbs_98 _ rfl) rfl ?_
    refine ev_istore_n (pc1 := 16) (L1 := [(2, .int 0), (1, .int x1), (0, .ref 73)]) (by rw [ml_98]; decide) rfl (TBof tbs_98 _ rfl) rfl ?_
    exact ev_le [2, 1, 0] rfl rfl H
  · replace H := H.2 c2
    refine ev_bipush (pc1 := 11) (x := (-100)) (by decide) (TBof tbs_98 _ rfl) rfl ?_
    refine ev_iload_n (pc1 := 12) rfl (TBof tbs_98 _ rfl) rfl ?_
    refine ev_isub (pc1 := 13) (TBof tbs_98 _ rfl) rfl ?_
    exact ev_ireturn (TBof tbs_98 _ rfl) (retI_i rt_98) ⟨_, rfl, H⟩
set_option maxRecDepth 100000 in
theorem R_X4_buildAll_16 {d : Nat} {v1 v2 : Int32} {M : Im} {h : Hm} {D : Dm} {Q : Int32 → Im → Hm → Dm → Prop} (H : (((M 73 15) ≤ v2) → (vp_in 0 168 ∧ (((((M 74 ((0 : Int32).toNatClampNeg)) + (M 73 15)) ≤ 16) → (CI d nX4_isGame [.ref 73] M h D (fun x3 M3 h3 D3 => ((x3 = 0) → (CV d nX4_record [.ref 73] M3 h3 D3 (fun M5 h5 D5 => EvI d nX4_buildAll 99 [(0, .ref 73), (1, .int v1), (2, .int 0)] [] M5 h5 D5 Q))) ∧ (¬ (x3 = 0) → (Q (-4) M3 h3 D3))))) ∧ (¬ (((M 74 ((0 : Int32).toNatClampNeg)) + (M 73 15)) ≤ 16) → (Q (-3) M h D))))) ∧ (¬ ((M 73 15) ≤ v2) → (vp_in (4 * v2) 128 ∧ ((((M 82 ((4 * v2).toNatClampNeg)) = (-5)) → (EvI d nX4_buildAll 16 [(0, .ref 73), (1, .int v1), (2, .int (v2 + 1))] [] M h D Q)) ∧ (¬ ((M 82 ((4 * v2).toNatClampNeg)) = (-5)) → (vp_in (4 * v2) 128 ∧ (vp_in 0 168 ∧ ((((M 82 ((4 * v2).toNatClampNeg)) < ((M 74 ((0 : Int32).toNatClampNeg)) + v2)) → (EvI d nX4_buildAll 16 [(0, .ref 73), (1, .int v1), (2, .int (v2 + 1))] [] M h D Q)) ∧ (¬ ((M 82 ((4 * v2).toNatClampNeg)) < ((M 74 ((0 : Int32).toNatClampNeg)) + v2)) → (Q (-1) M h D)))))))))) : EvI d nX4_buildAll 16 [(0, .ref 73), (1, .int v1), (2, .int v2)] [] M h D Q := by
  refine ev_iload_n (pc1 := 17) rfl (TBof tbs_98 _ rfl) rfl ?_
  refine ev_aload_n (pc1 := 18) rfl rfl (TBof tbs_98 _ rfl) rfl ?_
  refine ev_getI (pc1 := 21) (ci := 4) (k := 15) (TBof tbs_98 _ rfl) rfl (fldof mo_98 fl_4_87) ltc_73 sh_73 nk_4_15 fi_4_15 ?_
  refine ev_icmp (pc1 := 24) (t := 64) (TBof tbs_98 _ rfl) (by decide) rfl (fun c1 => ?_) (fun c1 => ?_)
  · replace H := H.1 c1
    refine ev_aload_n (pc1 := 65) rfl rfl (TBof tbs_98 _ rfl) rfl ?_
    refine ev_getP (pc1 := 68) (ci := 4) (k := 0) (a := 74) (TBof tbs_98 _ rfl) rfl (fldof mo_98 fl_4_7) ltc_73 sh_73 nk_4_0 fp_4_0 (by decide) pf_73_0 ?_
    refine ev_iconst (pc1 := 69) (x := 0) (by decide) (TBof tbs_98 _ rfl) rfl ?_
    refine ev_iaload (pc1 := 70) (n := 168) (TBof tbs_98 _ rfl) rfl ltc_74 sh_74 H.1 ?_
    replace H := H.2
    refine ev_aload_n (pc1 := 71) rfl rfl (TBof tbs_98 _ rfl) rfl ?_
    refine ev_getI (pc1 := 74) (ci := 4) (k := 15) (TBof tbs_98 _ rfl) rfl (fldof mo_98 fl_4_87) ltc_73 sh_73 nk_4_15 fi_4_15 ?_
    refine ev_iadd (pc1 := 75) (TBof tbs_98 _ rfl) rfl ?_
    refine ev_bipush (pc1 := 77) (x := 16) (by decide) (TBof tbs_98 _ rfl) rfl ?_
    refine ev_icmp (pc1 := 80) (t := 83) (TBof tbs_98 _ rfl) (by decide) rfl (fun c2 => ?_) (fun c2 => ?_)
    · replace H := H.1 c2
      refine ev_aload_n (pc1 := 84) rfl rfl (TBof tbs_98 _ rfl) rfl ?_
      refine ev_callvI (pc1 := 87) (as := []) (r := []) (TBof tbs_98 _ rfl) rfl (lnkof mo_98 ln_4_62) rfl na_89 ltc_73 (sh_73.trans (by rw [mo_89])) (Nat.le_of_ble_eq_true rfl) H (fun x3 M3 h3 D3 H => ?_)
      refine ev_if (pc1 := 90) (t := 93) (TBof tbs_98 _ rfl) (by decide) rfl (fun c4 => ?_) (fun c4 => ?_)
      · replace H := H.1 c4
        refine ev_aload_n (pc1 := 94) rfl rfl (TBof tbs_98 _ rfl) rfl ?_
        refine ev_callvV (pc1 := 97) (as := []) (r := []) (TBof tbs_98 _ rfl) rfl (lnkof mo_98 ln_4_66) rfl na_87 ltc_73 (sh_73.trans (by rw [mo_87])) (Nat.le_of_ble_eq_true rfl) H (fun M5 h5 D5 H => ?_)
        refine ev_iconst (pc1 := 98) (x := 0) (by decide) (TBof tbs_98 _ rfl) rfl ?_
        refine ev_istore_n (pc1 := 99) (L1 := [(2, .int 0), (0, .ref 73), (1, .int v1)]) (by rw [ml_98]; decide) rfl (TBof tbs_98 _ rfl) rfl ?_
        exact ev_le [1, 2, 0] rfl rfl H
      · replace H := H.2 c4
        refine ev_bipush (pc1 := 92) (x := (-4)) (by decide) (TBof tbs_98 _ rfl) rfl ?_
        exact ev_ireturn (TBof tbs_98 _ rfl) (retI_i rt_98) ⟨_, rfl, H⟩
    · replace H := H.2 c2
      refine ev_bipush (pc1 := 82) (x := (-3)) (by decide) (TBof tbs_98 _ rfl) rfl ?_
      exact ev_ireturn (TBof tbs_98 _ rfl) (retI_i rt_98) ⟨_, rfl, H⟩
  · replace H := H.2 c1
    refine ev_aload_n (pc1 := 25) rfl rfl (TBof tbs_98 _ rfl) rfl ?_
    refine ev_getP (pc1 := 28) (ci := 4) (k := 8) (a := 82) (TBof tbs_98 _ rfl) rfl (fldof mo_98 fl_4_36) ltc_73 sh_73 nk_4_8 fp_4_8 (by decide) pf_73_8 ?_
    refine ev_iconst (pc1 := 29) (x := 4) (by decide) (TBof tbs_98 _ rfl) rfl ?_
    refine ev_iload_n (pc1 := 30) rfl (TBof tbs_98 _ rfl) rfl ?_
    refine ev_imul (pc1 := 31) (TBof tbs_98 _ rfl) rfl ?_
    refine ev_iaload (pc1 := 32) (n := 128) (TBof tbs_98 _ rfl) rfl ltc_82 sh_82 H.1 ?_
    replace H := H.2
    refine ev_bipush (pc1 := 34) (x := (-5)) (by decide) (TBof tbs_98 _ rfl) rfl ?_
    refine ev_icmp (pc1 := 37) (t := 58) (TBof tbs_98 _ rfl) (by decide) rfl (fun c6 => ?_) (fun c6 => ?_)
    · replace H := H.1 c6
      refine ev_iinc (pc1 := 61) (n := 2) (c := 1) (x := v2) (cc := 1) (L1 := [(2, .int (v2 + 1)), (0, .ref 73), (1, .int v1)]) rfl (by rw [ml_98]; decide) (by decide) rfl (TBof tbs_98 _ rfl) rfl ?_
      refine ev_goto (pc1 := 16) (TBof tbs_98 _ rfl) (by decide) ?_
      exact ev_le [1, 2, 0] rfl rfl H
    · replace H := H.2 c6
      refine ev_aload_n (pc1 := 38) rfl rfl (TBof tbs_98 _ rfl) rfl ?_
      refine ev_getP (pc1 := 41) (ci := 4) (k := 8) (a := 82) (TBof tbs_98 _ rfl) rfl (fldof mo_98 fl_4_36) ltc_73 sh_73 nk_4_8 fp_4_8 (by decide) pf_73_8 ?_
      refine ev_iconst (pc1 := 42) (x := 4) (by decide) (TBof tbs_98 _ rfl) rfl ?_
      refine ev_iload_n (pc1 := 43) rfl (TBof tbs_98 _ rfl) rfl ?_
      refine ev_imul (pc1 := 44) (TBof tbs_98 _ rfl) rfl ?_
      refine ev_iaload (pc1 := 45) (n := 128) (TBof tbs_98 _ rfl) rfl ltc_82 sh_82 H.1 ?_
      replace H := H.2
      refine ev_aload_n (pc1 := 46) rfl rfl (TBof tbs_98 _ rfl) rfl ?_
      refine ev_getP (pc1 := 49) (ci := 4) (k := 0) (a := 74) (TBof tbs_98 _ rfl) rfl (fldof mo_98 fl_4_7) ltc_73 sh_73 nk_4_0 fp_4_0 (by decide) pf_73_0 ?_
      refine ev_iconst (pc1 := 50) (x := 0) (by decide) (TBof tbs_98 _ rfl) rfl ?_
      refine ev_iaload (pc1 := 51) (n := 168) (TBof tbs_98 _ rfl) rfl ltc_74 sh_74 H.1 ?_
      replace H := H.2
      refine ev_iload_n (pc1 := 52) rfl (TBof tbs_98 _ rfl) rfl ?_
      refine ev_iadd (pc1 := 53) (TBof tbs_98 _ rfl) rfl ?_
      refine ev_icmp (pc1 := 56) (t := 58) (TBof tbs_98 _ rfl) (by decide) rfl (fun c7 => ?_) (fun c7 => ?_)
      · replace H := H.1 c7
        refine ev_iinc (pc1 := 61) (n := 2) (c := 1) (x := v2) (cc := 1) (L1 := [(2, .int (v2 + 1)), (0, .ref 73), (1, .int v1)]) rfl (by rw [ml_98]; decide) (by decide) rfl (TBof tbs_98 _ rfl) rfl ?_
        refine ev_goto (pc1 := 16) (TBof tbs_98 _ rfl) (by decide) ?_
        exact ev_le [1, 2, 0] rfl rfl H
      · replace H := H.2 c7
        refine ev_iconst (pc1 := 57) (x := (-1)) (by decide) (TBof tbs_98 _ rfl) rfl ?_
        exact ev_ireturn (TBof tbs_98 _ rfl) (retI_i rt_98) ⟨_, rfl, H⟩
set_option maxRecDepth 100000 in
theorem R_X4_buildAll_99 {d : Nat} {v1 v2 : Int32} {M : Im} {h : Hm} {D : Dm} {Q : Int32 → Im → Hm → Dm → Prop} (H : (((M 73 15) ≤ v2) → (Q (M 73 15) M h D)) ∧ (¬ ((M 73 15) ≤ v2) → (vp_in (4 * v2) 128 ∧ (vp_in ((4 * v2) + 1) 128 ∧ (vp_in ((4 * v2) + 2) 128 ∧ (CI d nX4_goBuild [.ref 73, .int (M 82 ((4 * v2).toNatClampNeg)), .int (M 82 (((4 * v2) + 1).toNatClampNeg)), .int (M 82 (((4 * v2) + 2).toNatClampNeg)), .int 0] M h D (fun x2 M2 h2 D2 => CI d nX4_d [.int x2] M2 h2 D2 (fun x3 M3 h3 D3 => vp_in ((4 * v2) + 3) 128 ∧ (vp_in (x3 + 4) 168 ∧ (EvI d nX4_buildAll 99 [(0, .ref 73), (1, .int v1), (2, .int (v2 + 1))] [] (up2 M3 74 ((x3 + 4).toNatClampNeg) (M3 82 (((4 * v2) + 3).toNatClampNeg))) h3 D3 Q)))))))))) : EvI d nX4_buildAll 99 [(0, .ref 73), (1, .int v1), (2, .int v2)] [] M h D Q := by
  refine ev_iload_n (pc1 := 100) rfl (TBof tbs_98 _ rfl) rfl ?_
  refine ev_aload_n (pc1 := 101) rfl rfl (TBof tbs_98 _ rfl) rfl ?_
  refine ev_getI (pc1 := 104) (ci := 4) (k := 15) (TBof tbs_98 _ rfl) rfl (fldof mo_98 fl_4_87) ltc_73 sh_73 nk_4_15 fi_4_15 ?_
  refine ev_icmp (pc1 := 107) (t := 168) (TBof tbs_98 _ rfl) (by decide) rfl (fun c1 => ?_) (fun c1 => ?_)
  · replace H := H.1 c1
    refine ev_aload_n (pc1 := 169) rfl rfl (TBof tbs_98 _ rfl) rfl ?_
    refine ev_getI (pc1 := 172) (ci := 4) (k := 15) (TBof tbs_98 _ rfl) rfl (fldof mo_98 fl_4_87) ltc_73 sh_73 nk_4_15 fi_4_15 ?_
    exact ev_ireturn (TBof tbs_98 _ rfl) (retI_i rt_98) ⟨_, rfl, H⟩
  · replace H := H.2 c1
    refine ev_aload_n (pc1 := 108) rfl rfl (TBof tbs_98 _ rfl) rfl ?_
    refine ev_aload_n (pc1 := 109) rfl rfl (TBof tbs_98 _ rfl) rfl ?_
    refine ev_getP (pc1 := 112) (ci := 4) (k := 8) (a := 82) (TBof tbs_98 _ rfl) rfl (fldof mo_98 fl_4_36) ltc_73 sh_73 nk_4_8 fp_4_8 (by decide) pf_73_8 ?_
    refine ev_iconst (pc1 := 113) (x := 4) (by decide) (TBof tbs_98 _ rfl) rfl ?_
    refine ev_iload_n (pc1 := 114) rfl (TBof tbs_98 _ rfl) rfl ?_
    refine ev_imul (pc1 := 115) (TBof tbs_98 _ rfl) rfl ?_
    refine ev_iaload (pc1 := 116) (n := 128) (TBof tbs_98 _ rfl) rfl ltc_82 sh_82 H.1 ?_
    replace H := H.2
    refine ev_aload_n (pc1 := 117) rfl rfl (TBof tbs_98 _ rfl) rfl ?_
    refine ev_getP (pc1 := 120) (ci := 4) (k := 8) (a := 82) (TBof tbs_98 _ rfl) rfl (fldof mo_98 fl_4_36) ltc_73 sh_73 nk_4_8 fp_4_8 (by decide) pf_73_8 ?_
    refine ev_iconst (pc1 := 121) (x := 4) (by decide) (TBof tbs_98 _ rfl) rfl ?_
    refine ev_iload_n (pc1 := 122) rfl (TBof tbs_98 _ rfl) rfl ?_
    refine ev_imul (pc1 := 123) (TBof tbs_98 _ rfl) rfl ?_
    refine ev_iconst (pc1 := 124) (x := 1) (by decide) (TBof tbs_98 _ rfl) rfl ?_
    refine ev_iadd (pc1 := 125) (TBof tbs_98 _ rfl) rfl ?_
    refine ev_iaload (pc1 := 126) (n := 128) (TBof tbs_98 _ rfl) rfl ltc_82 sh_82 H.1 ?_
    replace H := H.2
    refine ev_aload_n (pc1 := 127) rfl rfl (TBof tbs_98 _ rfl) rfl ?_
    refine ev_getP (pc1 := 130) (ci := 4) (k := 8) (a := 82) (TBof tbs_98 _ rfl) rfl (fldof mo_98 fl_4_36) ltc_73 sh_73 nk_4_8 fp_4_8 (by decide) pf_73_8 ?_
    refine ev_iconst (pc1 := 131) (x := 4) (by decide) (TBof tbs_98 _ rfl) rfl ?_
    refine ev_iload_n (pc1 := 132) rfl (TBof tbs_98 _ rfl) rfl ?_
    refine ev_imul (pc1 := 133) (TBof tbs_98 _ rfl) rfl ?_
    refine ev_iconst (pc1 := 134) (x := 2) (by decide) (TBof tbs_98 _ rfl) rfl ?_
    refine ev_iadd (pc1 := 135) (TBof tbs_98 _ rfl) rfl ?_
    refine ev_iaload (pc1 := 136) (n := 128) (TBof tbs_98 _ rfl) rfl ltc_82 sh_82 H.1 ?_
    replace H := H.2
    refine ev_iconst (pc1 := 137) (x := 0) (by decide) (TBof tbs_98 _ rfl) rfl ?_
    refine ev_callvI (pc1 := 140) (as := [.int (M 82 ((4 * v2).toNatClampNeg)), .int (M 82 (((4 * v2) + 1).toNatClampNeg)), .int (M 82 (((4 * v2) + 2).toNatClampNeg)), .int 0]) (r := []) (TBof tbs_98 _ rfl) rfl (lnkof mo_98 ln_4_69) rfl na_91 ltc_73 (sh_73.trans (by rw [mo_91])) (Nat.le_of_ble_eq_true rfl) H (fun x2 M2 h2 D2 H => ?_)
    refine ev_istore_n (pc1 := 141) (L1 := [(3, .int x2), (0, .ref 73), (1, .int v1), (2, .int v2)]) (by rw [ml_98]; decide) rfl (TBof tbs_98 _ rfl) rfl ?_
    refine ev_aload_n (pc1 := 142) rfl rfl (TBof tbs_98 _ rfl) rfl ?_
    refine ev_getP (pc1 := 145) (ci := 4) (k := 0) (a := 74) (TBof tbs_98 _ rfl) rfl (fldof mo_98 fl_4_7) ltc_73 sh_73 nk_4_0 fp_4_0 (by decide) pf_73_0 ?_
    refine ev_iload_n (pc1 := 146) rfl (TBof tbs_98 _ rfl) rfl ?_
    refine ev_callsI (pc1 := 149) (as := [.int x2]) (r := [.ref 74]) (TBof tbs_98 _ rfl) rfl (lnkof mo_98 ln_4_55) (Or.inl rfl) rfl na_86 (Nat.le_of_ble_eq_true rfl) H (fun x3 M3 h3 D3 H => ?_)
    refine ev_iconst (pc1 := 150) (x := 4) (by decide) (TBof tbs_98 _ rfl) rfl ?_
    refine ev_iadd (pc1 := 151) (TBof tbs_98 _ rfl) rfl ?_
    refine ev_aload_n (pc1 := 152) rfl rfl (TBof tbs_98 _ rfl) rfl ?_
    refine ev_getP (pc1 := 155) (ci := 4) (k := 8) (a := 82) (TBof tbs_98 _ rfl) rfl (fldof mo_98 fl_4_36) ltc_73 sh_73 nk_4_8 fp_4_8 (by decide) pf_73_8 ?_
    refine ev_iconst (pc1 := 156) (x := 4) (by decide) (TBof tbs_98 _ rfl) rfl ?_
    refine ev_iload_n (pc1 := 157) rfl (TBof tbs_98 _ rfl) rfl ?_
    refine ev_imul (pc1 := 158) (TBof tbs_98 _ rfl) rfl ?_
    refine ev_iconst (pc1 := 159) (x := 3) (by decide) (TBof tbs_98 _ rfl) rfl ?_
    refine ev_iadd (pc1 := 160) (TBof tbs_98 _ rfl) rfl ?_
    refine ev_iaload (pc1 := 161) (n := 128) (TBof tbs_98 _ rfl) rfl ltc_82 sh_82 H.1 ?_
    replace H := H.2
    refine ev_iastore (pc1 := 162) (n := 168) (TBof tbs_98 _ rfl) rfl ltc_74 sh_74 H.1 ?_
    replace H := H.2
    refine ev_iinc (pc1 := 165) (n := 2) (c := 1) (x := v2) (cc := 1) (L1 := [(2, .int (v2 + 1)), (3, .int x2), (0, .ref 73), (1, .int v1)]) rfl (by rw [ml_98]; decide) (by decide) rfl (TBof tbs_98 _ rfl) rfl ?_
    refine ev_goto (pc1 := 99) (TBof tbs_98 _ rfl) (by decide) ?_
    exact ev_le [2, 3, 0] rfl rfl H
set_option maxRecDepth 100000 in
theorem R_X4_setBottoms_0 {d : Nat} {v1 v2 : Int32} {M : Im} {h : Hm} {D : Dm} {Q : Int32 → Im → Hm → Dm → Prop} (H : CI d nX4_isDrawer [.ref 73, .int v1] M h D (fun x1 M1 h1 D1 => ((¬ (x1 = 0)) → (CI d nX4_in [.int v2, .int 0, .int 3] M1 h1 D1 (fun x3 M3 h3 D3 => ((¬ (x3 = 0)) → (CI d nX4_isGame [.ref 73] M3 h3 D3 (fun x5 M5 h5 D5 => ((x5 = 0) → (CI d nX4_d [.int v1] M5 h5 D5 (fun x7 M7 h7 D7 => vp_in (x7 + 4) 168 ∧ (((¬ ((M7 74 ((x7 + 4).toNatClampNeg)) = v2)) → (CV d nX4_record [.ref 73] M7 h7 D7 (fun M9 h9 D9 => CI d nX4_d [.int v1] M9 h9 D9 (fun x10 M10 h10 D10 => vp_in (x10 + 4) 168 ∧ (EvI d nX4_setBottoms 71 [(0, .ref 73), (1, .int v1), (2, .int v2), (3, .int (M7 74 ((x7 + 4).toNatClampNeg))), (4, .int 0)] [] (up2 M10 74 ((x10 + 4).toNatClampNeg) v2) h10 D10 Q))))) ∧ (¬ (¬ ((M7 74 ((x7 + 4).toNatClampNeg)) = v2)) → (Q (-5) M7 h7 D7)))))) ∧ (¬ (x5 = 0) → (Q (-4) M5 h5 D5))))) ∧ (¬ (¬ (x3 = 0)) → (Q (-2) M3 h3 D3))))) ∧ (¬ (¬ (x1 = 0)) → (Q (-1) M1 h1 D1)))) : EvI d nX4_setBottoms 0 [(0, .ref 73), (1, .int v1), (2, .int v2)] [] M h D Q := by
  refine ev_aload_n (pc1 := 1) rfl rfl (TBof tbs_99 _ rfl) rfl ?_
  refine ev_iload_n (pc1 := 2) rfl (TBof tbs_99 _ rfl) rfl ?_
  refine ev_callvI (pc1 := 5) (as := [.int v1]) (r := []) (TBof tbs_99 _ rfl) rfl (lnkof mo_99 ln_4_58) rfl na_88 ltc_73 (sh_73.trans (by rw [mo_88])) (Nat.le_of_ble_eq_true rfl) H (fun x1 M1 h1 D1 H => ?_)
  refine ev_if (pc1 := 8) (t := 10) (TBof tbs_99 _ rfl) (by decide) rfl (fun c2 => ?_) (fun c2 => ?_)
  · replace H := H.1 c2
    refine ev_iload_n (pc1 := 11) rfl (TBof tbs_99 _ rfl) rfl ?_
    refine ev_iconst (pc1 := 12) (x := 0) (by decide) (TBof tbs_99 _ rfl) rfl ?_
    refine ev_iconst (pc1 := 13) (x := 3) (by decide) (TBof tbs_99 _ rfl) rfl ?_
    refine ev_callsI (pc1 := 16) (as := [.int v2, .int 0, .int 3]) (r := []) (TBof tbs_99 _ rfl) rfl (lnkof mo_99 ln_4_51) (Or.inl rfl) rfl na_84 (Nat.le_of_ble_eq_true rfl) H (fun x3 M3 h3 D3 H => ?_)
    refine ev_if (pc1 := 19) (t := 22) (TBof tbs_99 _ rfl) (by decide) rfl (fun c4 => ?_) (fun c4 => ?_)
    · replace H := H.1 c4
      refine ev_aload_n (pc1 := 23) rfl rfl (TBof tbs_99 _ rfl) rfl ?_
      refine ev_callvI (pc1 := 26) (as := []) (r := []) (TBof tbs_99 _ rfl) rfl (lnkof mo_99 ln_4_62) rfl na_89 ltc_73 (sh_73.trans (by rw [mo_89])) (Nat.le_of_ble_eq_true rfl) H (fun x5 M5 h5 D5 H => ?_)
      refine ev_if (pc1 := 29) (t := 32) (TBof tbs_99 _ rfl) (by decide) rfl (fun c6 => ?_) (fun c6 => ?_)
      · replace H := H.1 c6
        refine ev_aload_n (pc1 := 33) rfl rfl (TBof tbs_99 _ rfl) rfl ?_
        refine ev_getP (pc1 := 36) (ci := 4) (k := 0) (a := 74) (TBof tbs_99 _ rfl) rfl (fldof mo_99 fl_4_7) ltc_73 sh_73 nk_4_0 fp_4_0 (by decide) pf_73_0 ?_
        refine ev_iload_n (pc1 := 37) rfl (TBof tbs_99 _ rfl) rfl ?_
        refine ev_callsI (pc1 := 40) (as := [.int v1]) (r := [.ref 74]) (TBof tbs_99 _ rfl) rfl (lnkof mo_99 ln_4_55) (Or.inl rfl) rfl na_86 (Nat.le_of_ble_eq_true rfl) H (fun x7 M7 h7 D7 H => ?_)
        refine ev_iconst (pc1 := 41) (x := 4) (by decide) (TBof tbs_99 _ rfl) rfl ?_
        refine ev_iadd (pc1 := 42) (TBof tbs_99 _ rfl) rfl ?_
        refine ev_iaload (pc1 := 43) (n := 168) (TBof tbs_99 _ rfl) rfl ltc_74 sh_74 H.1 ?_
        replace H := H.2
        refine ev_istore_n (pc1 := 44) (L1 := [(3, .int (M7 74 ((x7 + 4).toNatClampNeg))), (0, .ref 73), (1, .int v1), (2, .int v2)]) (by rw [ml_99]; decide) rfl (TBof tbs_99 _ rfl) rfl ?_
        refine ev_iload_n (pc1 := 45) rfl (TBof tbs_99 _ rfl) rfl ?_
        refine ev_iload_n (pc1 := 46) rfl (TBof tbs_99 _ rfl) rfl ?_
        refine ev_icmp (pc1 := 49) (t := 52) (TBof tbs_99 _ rfl) (by decide) rfl (fun c8 => ?_) (fun c8 => ?_)
        · replace H := H.1 c8
          refine ev_aload_n (pc1 := 53) rfl rfl (TBof tbs_99 _ rfl) rfl ?_
          refine ev_callvV (pc1 := 56) (as := []) (r := []) (TBof tbs_99 _ rfl) rfl (lnkof mo_99 ln_4_66) rfl na_87 ltc_73 (sh_73.trans (by rw [mo_87])) (Nat.le_of_ble_eq_true rfl) H (fun M9 h9 D9 H => ?_)
          refine ev_aload_n (pc1 := 57) rfl rfl (TBof tbs_99 _ rfl) rfl ?_
          refine ev_getP (pc1 := 60) (ci := 4) (k := 0) (a := 74) (TBof tbs_99 _ rfl) rfl (fldof mo_99 fl_4_7) ltc_73 sh_73 nk_4_0 fp_4_0 (by decide) pf_73_0 ?_
          refine ev_iload_n (pc1 := 61) rfl (TBof tbs_99 _ rfl) rfl ?_
          refine ev_callsI (pc1 := 64) (as := [.int v1]) (r := [.ref 74]) (TBof tbs_99 _ rfl) rfl (lnkof mo_99 ln_4_55) (Or.inl rfl) rfl na_86 (Nat.le_of_ble_eq_true rfl) H (fun x10 M10 h10 D10 H => ?_)
          refine ev_iconst (pc1 := 65) (x := 4) (by decide) (TBof tbs_99 _ rfl) rfl ?_
          refine ev_iadd (pc1 := 66) (TBof tbs_99 _ rfl) rfl ?_
          refine ev_iload_n (pc1 := 67) rfl (TBof tbs_99 _ rfl) rfl ?_
          refine ev_iastore (pc1 := 68) (n := 168) (TBof tbs_99 _ rfl) rfl ltc_74 sh_74 H.1 ?_
          replace H := H.2
          refine ev_iconst (pc1 := 69) (x := 0) (by decide) (TBof tbs_99 _ rfl) rfl ?_
          refine ev_istore (pc1 := 71) (L1 := [(4, .int 0), (3, .int (M7 74 ((x7 + 4).toNatClampNeg))), (0, .ref 73), (1, .int v1), (2, .int v2)]) (by rw [ml_99]; decide) rfl (TBof tbs_99 _ rfl) rfl ?_
          exact ev_le [2, 3, 4, 1, 0] rfl rfl H
        · replace H := H.2 c8
          refine ev_bipush (pc1 := 51) (x := (-5)) (by decide) (TBof tbs_99 _ rfl) rfl ?_
          exact ev_ireturn (TBof tbs_99 _ rfl) (retI_i rt_99) ⟨_, rfl, H⟩
      · replace H := H.2 c6
        refine ev_bipush (pc1 := 31) (x := (-4)) (by decide) (TBof tbs_99 _ rfl) rfl ?_
        exact ev_ireturn (TBof tbs_99 _ rfl) (retI_i rt_99) ⟨_, rfl, H⟩
    · replace H := H.2 c4
      refine ev_bipush (pc1 := 21) (x := (-2)) (by decide) (TBof tbs_99 _ rfl) rfl ?_
      exact ev_ireturn (TBof tbs_99 _ rfl) (retI_i rt_99) ⟨_, rfl, H⟩
  · replace H := H.2 c2
    refine ev_iconst (pc1 := 9) (x := (-1)) (by decide) (TBof tbs_99 _ rfl) rfl ?_
    exact ev_ireturn (TBof tbs_99 _ rfl) (retI_i rt_99) ⟨_, rfl, H⟩
set_option maxRecDepth 100000 in
theorem R_X4_setBottoms_71 {d : Nat} {v1 v2 v3 v4 : Int32} {M : Im} {h : Hm} {D : Dm} {Q : Int32 → Im → Hm → Dm → Prop} (H : ((12 ≤ v4) → (Q v3 M h D)) ∧ (¬ (12 ≤ v4) → (CI d nX4_t [.int v4] M h D (fun x2 M2 h2 D2 => vp_in (x2 + 0) 168 ∧ (((¬ ((M2 74 ((x2 + 0).toNatClampNeg)) = v1)) → (EvI d nX4_setBottoms 115 [(0, .ref 73), (1, .int v1), (2, .int v2), (3, .int v3), (4, .int v4)] [.int 0] M2 h2 D2 Q)) ∧ (¬ (¬ ((M2 74 ((x2 + 0).toNatClampNeg)) = v1)) → (CI d nX4_t [.int v4] M2 h2 D2 (fun x4 M4 h4 D4 => vp_in (x4 + 1) 168 ∧ ((((M4 74 ((x4 + 1).toNatClampNeg)) ≤ v2) → (EvI d nX4_setBottoms 115 [(0, .ref 73), (1, .int v1), (2, .int v2), (3, .int v3), (4, .int v4)] [.int 0] M4 h4 D4 Q)) ∧ (¬ ((M4 74 ((x4 + 1).toNatClampNeg)) ≤ v2) → (EvI d nX4_setBottoms 115 [(0, .ref 73), (1, .int v1), (2, .int v2), (3, .int v3), (4, .int v4)] [.int 1] M4 h4 D4 Q))))))))))) : EvI d nX4_setBottoms 71 [(0, .ref 73), (1, .int v1), (2, .int v2), (3, .int v3), (4, .int v4)] [] M h D Q := by
  refine ev_iload (pc1 := 73) rfl (TBof tbs_99 _ rfl) rfl ?_
  refine ev_bipush (pc1 := 75) (x := 12) (by decide) (TBof tbs_99 _ rfl) rfl ?_
  refine ev_icmp (pc1 := 78) (t := 156) (TBof tbs_99 _ rfl) (by decide) rfl (fun c1 => ?_) (fun c1 => ?_)
  · replace H := H.1 c1
    refine ev_iload_n (pc1 := 157) rfl (TBof tbs_99 _ rfl) rfl ?_
    exact ev_ireturn (TBof tbs_99 _ rfl) (retI_i rt_99) ⟨_, rfl, H⟩
  · replace H := H.2 c1
    refine ev_aload_n (pc1 := 79) rfl rfl (TBof tbs_99 _ rfl) rfl ?_
    refine ev_getP (pc1 := 82) (ci := 4) (k := 0) (a := 74) (TBof tbs_99 _ rfl) rfl (fldof mo_99 fl_4_7) ltc_73 sh_73 nk_4_0 fp_4_0 (by decide) pf_73_0 ?_
    refine ev_iload (pc1 := 84) rfl (TBof tbs_99 _ rfl) rfl ?_
    refine ev_callsI (pc1 := 87) (as := [.int v4]) (r := [.ref 74]) (TBof tbs_99 _ rfl) rfl (lnkof mo_99 ln_4_43) (Or.inl rfl) rfl na_85 (Nat.le_of_ble_eq_true rfl) H (fun x2 M2 h2 D2 H => ?_)
    refine ev_iconst (pc1 := 88) (x := 0) (by decide) (TBof tbs_99 _ rfl) rfl ?_
    refine ev_iadd (pc1 := 89) (TBof tbs_99 _ rfl) rfl ?_
    refine ev_iaload (pc1 := 90) (n := 168) (TBof tbs_99 _ rfl) rfl ltc_74 sh_74 H.1 ?_
    replace H := H.2
    refine ev_iload_n (pc1 := 91) rfl (TBof tbs_99 _ rfl) rfl ?_
    refine ev_icmp (pc1 := 94) (t := 114) (TBof tbs_99 _ rfl) (by decide) rfl (fun c3 => ?_) (fun c3 => ?_)
    · replace H := H.1 c3
      refine ev_iconst (pc1 := 115) (x := 0) (by decide) (TBof tbs_99 _ rfl) rfl ?_
      exact ev_le [0, 1, 2, 3, 4] rfl rfl H
    · replace H := H.2 c3
      refine ev_aload_n (pc1 := 95) rfl rfl (TBof tbs_99 _ rfl) rfl ?_
      refine ev_getP (pc1 := 98) (ci := 4) (k := 0) (a := 74) (TBof tbs_99 _ rfl) rfl (fldof mo_99 fl_4_7) ltc_73 sh_73 nk_4_0 fp_4_0 (by decide) pf_73_0 ?_
      refine ev_iload (pc1 := 100) rfl (TBof tbs_99 _ rfl) rfl ?_
      refine ev_callsI (pc1 := 103) (as := [.int v4]) (r := [.ref 74]) (TBof tbs_99 _ rfl) rfl (lnkof mo_99 ln_4_43) (Or.inl rfl) rfl na_85 (Nat.le_of_ble_eq_true rfl) H (fun x4 M4 h4 D4 H => ?_)
      refine ev_iconst (pc1 := 104) (x := 1) (by decide) (TBof tbs_99 _ rfl) rfl ?_
      refine ev_iadd (pc1 := 105) (TBof tbs_99 _ rfl) rfl ?_
      refine ev_iaload (pc1 := 106) (n := 168) (TBof tbs_99 _ rfl) rfl ltc_74 sh_74 H.1 ?_
      replace H := H.2
      refine ev_iload_n (pc1 := 107) rfl (TBof tbs_99 _ rfl) rfl ?_
      refine ev_icmp (pc1 := 110) (t := 114) (TBof tbs_99 _ rfl) (by decide) rfl (fun c5 => ?_) (fun c5 => ?_)
      · replace H := H.1 c5
        refine ev_iconst (pc1 := 115) (x := 0) (by decide) (TBof tbs_99 _ rfl) rfl ?_
        exact ev_le [0, 1, 2, 3, 4] rfl rfl H
      · replace H := H.2 c5
        refine ev_iconst (pc1 := 111) (x := 1) (by decide) (TBof tbs_99 _ rfl) rfl ?_
        refine ev_goto (pc1 := 115) (TBof tbs_99 _ rfl) (by decide) ?_
        exact ev_le [0, 1, 2, 3, 4] rfl rfl H
set_option maxRecDepth 100000 in
theorem R_X4_setBottoms_115 {d : Nat} {v1 v2 v3 v4 s0 : Int32} {M : Im} {h : Hm} {D : Dm} {Q : Int32 → Im → Hm → Dm → Prop} (H : CI d nX4_t [.int v4] M h D (fun x1 M1 h1 D1 => ((s0 = 0) → (CI d nX4_t [.int v4] M1 h1 D1 (fun x3 M3 h3 D3 => vp_in (x3 + 1) 168 ∧ (vp_in (x1 + 1) 168 ∧ (EvI d nX4_setBottoms 71 [(0, .ref 73), (1, .int v1), (2, .int v2), (3, .int v3), (4, .int (v4 + 1))] [] (up2 M3 74 ((x1 + 1).toNatClampNeg) (M3 74 ((x3 + 1).toNatClampNeg))) h3 D3 Q))))) ∧ (¬ (s0 = 0) → (vp_in (x1 + 1) 168 ∧ (EvI d nX4_setBottoms 71 [(0, .ref 73), (1, .int v1), (2, .int v2), (3, .int v3), (4, .int (v4 + 1))] [] (up2 M1 74 ((x1 + 1).toNatClampNeg) v2) h1 D1 Q))))) : EvI d nX4_setBottoms 115 [(0, .ref 73), (1, .int v1), (2, .int v2), (3, .int v3), (4, .int v4)] [.int s0] M h D Q := by
  refine ev_istore (pc1 := 117) (L1 := [(5, .int s0), (0, .ref 73), (1, .int v1), (2, .int v2), (3, .int v3), (4, .int v4)]) (by rw [ml_99]; decide) rfl (TBof tbs_99 _ rfl) rfl ?_
  refine ev_aload_n (pc1 := 118) rfl rfl (TBof tbs_99 _ rfl) rfl ?_
  refine ev_getP (pc1 := 121) (ci := 4) (k := 0) (a := 74) (TBof tbs_99 _ rfl) rfl (fldof mo_99 fl_4_7) ltc_73 sh_73 nk_4_0 fp_4_0 (by decide) pf_73_0 ?_
  refine ev_iload (pc1 := 123) rfl (TBof tbs_99 _ rfl) rfl ?_
  refine ev_callsI (pc1 := 126) (as := [.int v4]) (r := [.ref 74]) (TBof tbs_99 _ rfl) rfl (lnkof mo_99 ln_4_43) (Or.inl rfl) rfl na_85 (Nat.le_of_ble_eq_true rfl) H (fun x1 M1 h1 D1 H => ?_)
  refine ev_iconst (pc1 := 127) (x := 1) (by decide) (TBof tbs_99 _ rfl) rfl ?_
  refine ev_iadd (pc1 := 128) (TBof tbs_99 _ rfl) rfl ?_
  refine ev_iload (pc1 := 130) rfl (TBof tbs_99 _ rfl) rfl ?_
  refine ev_if (pc1 := 133) (t := 137) (TBof tbs_99 _ rfl) (by decide) rfl (fun c2 => ?_) (fun c2 => ?_)
  · replace H := H.1 c2
    refine ev_aload_n (pc1 := 138) rfl rfl (TBof tbs_99 _ rfl) rfl ?_
    refine ev_getP (pc1 := 141) (ci := 4) (k := 0) (a := 74) (TBof tbs_99 _ rfl) rfl (fldof mo_99 fl_4_7) ltc_73 sh_73 nk_4_0 fp_4_0 (by decide) pf_73_0 ?_
    refine ev_iload (pc1 := 143) rfl (TBof tbs_99 _ rfl) rfl ?_
    refine ev_callsI (pc1 := 146) (as := [.int v4]) (r := [.ref 74, .int (x1 + 1), .ref 74]) (TBof tbs_99 _ rfl) rfl (lnkof mo_99 ln_4_43) (Or.inl rfl) rfl na_85 (Nat.le_of_ble_eq_true rfl) H (fun x3 M3 h3 D3 H => ?_)
    refine ev_iconst (pc1 := 147) (x := 1) (by decide) (TBof tbs_99 _ rfl) rfl ?_
    refine ev_iadd (pc1 := 148) (TBof tbs_99 _ rfl) rfl ?_
    refine ev_iaload (pc1 := 149) (n := 168) (TBof tbs_99 _ rfl) rfl ltc_74 sh_74 H.1 ?_
    replace H := H.2
    refine ev_iastore (pc1 := 150) (n := 168) (TBof tbs_99 _ rfl) rfl ltc_74 sh_74 H.1 ?_
    replace H := H.2
    refine ev_iinc (pc1 := 153) (n := 4) (c := 1) (x := v4) (cc := 1) (L1 := [(4, .int (v4 + 1)), (5, .int s0), (0, .ref 73), (1, .int v1), (2, .int v2), (3, .int v3)]) rfl (by rw [ml_99]; decide) (by decide) rfl (TBof tbs_99 _ rfl) rfl ?_
    refine ev_goto (pc1 := 71) (TBof tbs_99 _ rfl) (by decide) ?_
    exact ev_le [2, 3, 4, 5, 0] rfl rfl H
  · replace H := H.2 c2
    refine ev_iload_n (pc1 := 134) rfl (TBof tbs_99 _ rfl) rfl ?_
    refine ev_goto (pc1 := 149) (TBof tbs_99 _ rfl) (by decide) ?_
    refine ev_iastore (pc1 := 150) (n := 168) (TBof tbs_99 _ rfl) rfl ltc_74 sh_74 H.1 ?_
    replace H := H.2
    refine ev_iinc (pc1 := 153) (n := 4) (c := 1) (x := v4) (cc := 1) (L1 := [(4, .int (v4 + 1)), (5, .int s0), (0, .ref 73), (1, .int v1), (2, .int v2), (3, .int v3)]) rfl (by rw [ml_99]; decide) (by decide) rfl (TBof tbs_99 _ rfl) rfl ?_
    refine ev_goto (pc1 := 71) (TBof tbs_99 _ rfl) (by decide) ?_
    exact ev_le [2, 3, 4, 5, 0] rfl rfl H
set_option maxRecDepth 100000 in
theorem R_X4_laidMany_0 {d : Nat} {M : Im} {h : Hm} {D : Dm} {Q : Int32 → Im → Hm → Dm → Prop} (H : EvI d nX4_laidMany 4 [(0, .ref 73), (1, .int 0), (2, .int 0)] [] M h D Q) : EvI d nX4_laidMany 0 [(0, .ref 73)] [] M h D Q := by
  refine ev_iconst (pc1 := 1) (x := 0) (by decide) (TBof tbs_100 _ rfl) rfl ?_
  refine ev_istore_n (pc1 := 2) (L1 := [(1, .int 0), (0, .ref 73)]) (by rw [ml_100]; decide) rfl (TBof tbs_100 _ rfl) rfl ?_
  refine ev_iconst (pc1 := 3) (x := 0) (by decide) (TBof tbs_100 _ rfl) rfl ?_
  refine ev_istore_n (pc1 := 4) (L1 := [(2, .int 0), (1, .int 0), (0, .ref 73)]) (by rw [ml_100]; decide) rfl (TBof tbs_100 _ rfl) rfl ?_
  exact ev_le [2, 1, 0] rfl rfl H
set_option maxRecDepth 100000 in
theorem R_X4_laidMany_4 {d : Nat} {v1 v2 : Int32} {M : Im} {h : Hm} {D : Dm} {Q : Int32 → Im → Hm → Dm → Prop} (H : ((12 ≤ v2) → (Q v1 M h D)) ∧ (¬ (12 ≤ v2) → (CI d nX4_t [.int v2] M h D (fun x2 M2 h2 D2 => vp_in (x2 + 0) 168 ∧ (((¬ ((M2 74 ((x2 + 0).toNatClampNeg)) = (-5))) → (EvI d nX4_laidMany 4 [(0, .ref 73), (1, .int (v1 + 1)), (2, .int (v2 + 1))] [] M2 h2 D2 Q)) ∧ (¬ (¬ ((M2 74 ((x2 + 0).toNatClampNeg)) = (-5))) → (EvI d nX4_laidMany 4 [(0, .ref 73), (1, .int (v1 + 0)), (2, .int (v2 + 1))] [] M2 h2 D2 Q))))))) : EvI d nX4_laidMany 4 [(0, .ref 73), (1, .int v1), (2, .int v2)] [] M h D Q := by
  refine ev_iload_n (pc1 := 5) rfl (TBof tbs_100 _ rfl) rfl ?_
  refine ev_bipush (pc1 := 7) (x := 12) (by decide) (TBof tbs_100 _ rfl) rfl ?_
  refine ev_icmp (pc1 := 10) (t := 40) (TBof tbs_100 _ rfl) (by decide) rfl (fun c1 => ?_) (fun c1 => ?_)
  · replace H := H.1 c1
    refine ev_iload_n (pc1 := 41) rfl (TBof tbs_100 _ rfl) rfl ?_
    exact ev_ireturn (TBof tbs_100 _ rfl) (retI_i rt_100) ⟨_, rfl, H⟩
  · replace H := H.2 c1
    refine ev_iload_n (pc1 := 11) rfl (TBof tbs_100 _ rfl) rfl ?_
    refine ev_aload_n (pc1 := 12) rfl rfl (TBof tbs_100 _ rfl) rfl ?_
    refine ev_getP (pc1 := 15) (ci := 4) (k := 0) (a := 74) (TBof tbs_100 _ rfl) rfl (fldof mo_100 fl_4_7) ltc_73 sh_73 nk_4_0 fp_4_0 (by decide) pf_73_0 ?_
    refine ev_iload_n (pc1 := 16) rfl (TBof tbs_100 _ rfl) rfl ?_
    refine ev_callsI (pc1 := 19) (as := [.int v2]) (r := [.ref 74, .int v1]) (TBof tbs_100 _ rfl) rfl (lnkof mo_100 ln_4_43) (Or.inl rfl) rfl na_85 (Nat.le_of_ble_eq_true rfl) H (fun x2 M2 h2 D2 H => ?_)
    refine ev_iconst (pc1 := 20) (x := 0) (by decide) (TBof tbs_100 _ rfl) rfl ?_
    refine ev_iadd (pc1 := 21) (TBof tbs_100 _ rfl) rfl ?_
    refine ev_iaload (pc1 := 22) (n := 168) (TBof tbs_100 _ rfl) rfl ltc_74 sh_74 H.1 ?_
    replace H := H.2
    refine ev_bipush (pc1 := 24) (x := (-5)) (by decide) (TBof tbs_100 _ rfl) rfl ?_
    refine ev_icmp (pc1 := 27) (t := 31) (TBof tbs_100 _ rfl) (by decide) rfl (fun c3 => ?_) (fun c3 => ?_)
    · replace H := H.1 c3
      refine ev_iconst (pc1 := 32) (x := 1) (by decide) (TBof tbs_100 _ rfl) rfl ?_
      refine ev_iadd (pc1 := 33) (TBof tbs_100 _ rfl) rfl ?_
      refine ev_istore_n (pc1 := 34) (L1 := [(1, .int (v1 + 1)), (0, .ref 73), (2, .int v2)]) (by rw [ml_100]; decide) rfl (TBof tbs_100 _ rfl) rfl ?_
      refine ev_iinc (pc1 := 37) (n := 2) (c := 1) (x := v2) (cc := 1) (L1 := [(2, .int (v2 + 1)), (1, .int (v1 + 1)), (0, .ref 73)]) rfl (by rw [ml_100]; decide) (by decide) rfl (TBof tbs_100 _ rfl) rfl ?_
      refine ev_goto (pc1 := 4) (TBof tbs_100 _ rfl) (by decide) ?_
      exact ev_le [2, 1, 0] rfl rfl H
    · replace H := H.2 c3
      refine ev_iconst (pc1 := 28) (x := 0) (by decide) (TBof tbs_100 _ rfl) rfl ?_
      refine ev_goto (pc1 := 32) (TBof tbs_100 _ rfl) (by decide) ?_
      refine ev_iadd (pc1 := 33) (TBof tbs_100 _ rfl) rfl ?_
      refine ev_istore_n (pc1 := 34) (L1 := [(1, .int (v1 + 0)), (0, .ref 73), (2, .int v2)]) (by rw [ml_100]; decide) rfl (TBof tbs_100 _ rfl) rfl ?_
      refine ev_iinc (pc1 := 37) (n := 2) (c := 1) (x := v2) (cc := 1) (L1 := [(2, .int (v2 + 1)), (1, .int (v1 + 0)), (0, .ref 73)]) rfl (by rw [ml_100]; decide) (by decide) rfl (TBof tbs_100 _ rfl) rfl ?_
      refine ev_goto (pc1 := 4) (TBof tbs_100 _ rfl) (by decide) ?_
      exact ev_le [2, 1, 0] rfl rfl H
set_option maxRecDepth 100000 in
theorem R_X4_lay_0 {d : Nat} {v1 v2 v3 : Int32} {M : Im} {h : Hm} {D : Dm} {Q : Int32 → Im → Hm → Dm → Prop} (H : CI d nX4_in [.int v1, .int 0, .int 11] M h D (fun x1 M1 h1 D1 => ((x1 = 0) → (Q (-1) M1 h1 D1)) ∧ (¬ (x1 = 0) → (((v2 = (-5)) → (EvI d nX4_lay 26 [(0, .ref 73), (1, .int v1), (2, .int v2), (3, .int v3)] [] M1 h1 D1 Q)) ∧ (¬ (v2 = (-5)) → (CI d nX4_isDrawer [.ref 73, .int v2] M1 h1 D1 (fun x4 M4 h4 D4 => ((¬ (x4 = 0)) → (EvI d nX4_lay 26 [(0, .ref 73), (1, .int v1), (2, .int v2), (3, .int v3)] [] M4 h4 D4 Q)) ∧ (¬ (¬ (x4 = 0)) → (Q (-1) M4 h4 D4))))))))) : EvI d nX4_lay 0 [(0, .ref 73), (1, .int v1), (2, .int v2), (3, .int v3)] [] M h D Q := by
  refine ev_iload_n (pc1 := 1) rfl (TBof tbs_101 _ rfl) rfl ?_
  refine ev_iconst (pc1 := 2) (x := 0) (by decide) (TBof tbs_101 _ rfl) rfl ?_
  refine ev_bipush (pc1 := 4) (x := 11) (by decide) (TBof tbs_101 _ rfl) rfl ?_
  refine ev_callsI (pc1 := 7) (as := [.int v1, .int 0, .int 11]) (r := []) (TBof tbs_101 _ rfl) rfl (lnkof mo_101 ln_4_51) (Or.inl rfl) rfl na_84 (Nat.le_of_ble_eq_true rfl) H (fun x1 M1 h1 D1 H => ?_)
  refine ev_if (pc1 := 10) (t := 24) (TBof tbs_101 _ rfl) (by decide) rfl (fun c2 => ?_) (fun c2 => ?_)
  · replace H := H.1 c2
    refine ev_iconst (pc1 := 25) (x := (-1)) (by decide) (TBof tbs_101 _ rfl) rfl ?_
    exact ev_ireturn (TBof tbs_101 _ rfl) (retI_i rt_101) ⟨_, rfl, H⟩
  · replace H := H.2 c2
    refine ev_iload_n (pc1 := 11) rfl (TBof tbs_101 _ rfl) rfl ?_
    refine ev_bipush (pc1 := 13) (x := (-5)) (by decide) (TBof tbs_101 _ rfl) rfl ?_
    refine ev_icmp (pc1 := 16) (t := 26) (TBof tbs_101 _ rfl) (by decide) rfl (fun c3 => ?_) (fun c3 => ?_)
    · replace H := H.1 c3
      exact ev_le [0, 1, 2, 3] rfl rfl H
    · replace H := H.2 c3
      refine ev_aload_n (pc1 := 17) rfl rfl (TBof tbs_101 _ rfl) rfl ?_
      refine ev_iload_n (pc1 := 18) rfl (TBof tbs_101 _ rfl) rfl ?_
      refine ev_callvI (pc1 := 21) (as := [.int v2]) (r := []) (TBof tbs_101 _ rfl) rfl (lnkof mo_101 ln_4_58) rfl na_88 ltc_73 (sh_73.trans (by rw [mo_88])) (Nat.le_of_ble_eq_true rfl) H (fun x4 M4 h4 D4 H => ?_)
      refine ev_if (pc1 := 24) (t := 26) (TBof tbs_101 _ rfl) (by decide) rfl (fun c5 => ?_) (fun c5 => ?_)
      · replace H := H.1 c5
        exact ev_le [0, 1, 2, 3] rfl rfl H
      · replace H := H.2 c5
        refine ev_iconst (pc1 := 25) (x := (-1)) (by decide) (TBof tbs_101 _ rfl) rfl ?_
        exact ev_ireturn (TBof tbs_101 _ rfl) (retI_i rt_101) ⟨_, rfl, H⟩
set_option maxRecDepth 100000 in
theorem R_X4_lay_26 {d : Nat} {v1 v2 v3 : Int32} {M : Im} {h : Hm} {D : Dm} {Q : Int32 → Im → Hm → Dm → Prop} (H : ((¬ (v2 = (-5))) → (CI d nX4_d [.int v2] M h D (fun x2 M2 h2 D2 => vp_in (x2 + 4) 168 ∧ (EvI d nX4_lay 49 [(0, .ref 73), (1, .int v1), (2, .int v2), (3, .int v3)] [.int (M2 74 ((x2 + 4).toNatClampNeg)), .int 0, .int v3] M2 h2 D2 Q)))) ∧ (¬ (¬ (v2 = (-5))) → (EvI d nX4_lay 49 [(0, .ref 73), (1, .int v1), (2, .int v2), (3, .int v3)] [.int 0, .int 0, .int v3] M h D Q))) : EvI d nX4_lay 26 [(0, .ref 73), (1, .int v1), (2, .int v2), (3, .int v3)] [] M h D Q := by
  refine ev_iload_n (pc1 := 27) rfl (TBof tbs_101 _ rfl) rfl ?_
  refine ev_iconst (pc1 := 28) (x := 0) (by decide) (TBof tbs_101 _ rfl) rfl ?_
  refine ev_iload_n (pc1 := 29) rfl (TBof tbs_101 _ rfl) rfl ?_
  refine ev_bipush (pc1 := 31) (x := (-5)) (by decide) (TBof tbs_101 _ rfl) rfl ?_
  refine ev_icmp (pc1 := 34) (t := 38) (TBof tbs_101 _ rfl) (by decide) rfl (fun c1 => ?_) (fun c1 => ?_)
  · replace H := H.1 c1
    refine ev_aload_n (pc1 := 39) rfl rfl (TBof tbs_101 _ rfl) rfl ?_
    refine ev_getP (pc1 := 42) (ci := 4) (k := 0) (a := 74) (TBof tbs_101 _ rfl) rfl (fldof mo_101 fl_4_7) ltc_73 sh_73 nk_4_0 fp_4_0 (by decide) pf_73_0 ?_
    refine ev_iload_n (pc1 := 43) rfl (TBof tbs_101 _ rfl) rfl ?_
    refine ev_callsI (pc1 := 46) (as := [.int v2]) (r := [.ref 74, .int 0, .int v3]) (TBof tbs_101 _ rfl) rfl (lnkof mo_101 ln_4_55) (Or.inl rfl) rfl na_86 (Nat.le_of_ble_eq_true rfl) H (fun x2 M2 h2 D2 H => ?_)
    refine ev_iconst (pc1 := 47) (x := 4) (by decide) (TBof tbs_101 _ rfl) rfl ?_
    refine ev_iadd (pc1 := 48) (TBof tbs_101 _ rfl) rfl ?_
    refine ev_iaload (pc1 := 49) (n := 168) (TBof tbs_101 _ rfl) rfl ltc_74 sh_74 H.1 ?_
    replace H := H.2
    exact ev_le [0, 1, 2, 3] rfl rfl H
  · replace H := H.2 c1
    refine ev_iconst (pc1 := 35) (x := 0) (by decide) (TBof tbs_101 _ rfl) rfl ?_
    refine ev_goto (pc1 := 49) (TBof tbs_101 _ rfl) (by decide) ?_
    exact ev_le [0, 1, 2, 3] rfl rfl H
set_option maxRecDepth 100000 in
theorem R_X4_lay_49 {d : Nat} {v1 v2 v3 s0 s1 s2 : Int32} {M : Im} {h : Hm} {D : Dm} {Q : Int32 → Im → Hm → Dm → Prop} (H : CI d nX4_in [.int s2, .int s1, .int s0] M h D (fun x1 M1 h1 D1 => ((¬ (x1 = 0)) → (CI d nX4_isGame [.ref 73] M1 h1 D1 (fun x3 M3 h3 D3 => ((x3 = 0) → (CI d nX4_t [.int v1] M3 h3 D3 (fun x5 M5 h5 D5 => vp_in (x5 + 0) 168 ∧ (((¬ ((M5 74 ((x5 + 0).toNatClampNeg)) = v2)) → (EvI d nX4_lay 101 [(0, .ref 73), (1, .int v1), (2, .int v2), (3, .int v3)] [] M5 h5 D5 Q)) ∧ (¬ (¬ ((M5 74 ((x5 + 0).toNatClampNeg)) = v2)) → (CI d nX4_t [.int v1] M5 h5 D5 (fun x7 M7 h7 D7 => vp_in (x7 + 1) 168 ∧ (((¬ ((M7 74 ((x7 + 1).toNatClampNeg)) = v3)) → (EvI d nX4_lay 101 [(0, .ref 73), (1, .int v1), (2, .int v2), (3, .int v3)] [] M7 h7 D7 Q)) ∧ (¬ (¬ ((M7 74 ((x7 + 1).toNatClampNeg)) = v3)) → (Q (-5) M7 h7 D7)))))))))) ∧ (¬ (x3 = 0) → (Q (-4) M3 h3 D3))))) ∧ (¬ (¬ (x1 = 0)) → (Q (-2) M1 h1 D1)))) : EvI d nX4_lay 49 [(0, .ref 73), (1, .int v1), (2, .int v2), (3, .int v3)] [.int s0, .int s1, .int s2] M h D Q := by
  refine ev_callsI (pc1 := 52) (as := [.int s2, .int s1, .int s0]) (r := []) (TBof tbs_101 _ rfl) rfl (lnkof mo_101 ln_4_51) (Or.inl rfl) rfl na_84 (Nat.le_of_ble_eq_true rfl) H (fun x1 M1 h1 D1 H => ?_)
  refine ev_if (pc1 := 55) (t := 58) (TBof tbs_101 _ rfl) (by decide) rfl (fun c2 => ?_) (fun c2 => ?_)
  · replace H := H.1 c2
    refine ev_aload_n (pc1 := 59) rfl rfl (TBof tbs_101 _ rfl) rfl ?_
    refine ev_callvI (pc1 := 62) (as := []) (r := []) (TBof tbs_101 _ rfl) rfl (lnkof mo_101 ln_4_62) rfl na_89 ltc_73 (sh_73.trans (by rw [mo_89])) (Nat.le_of_ble_eq_true rfl) H (fun x3 M3 h3 D3 H => ?_)
    refine ev_if (pc1 := 65) (t := 68) (TBof tbs_101 _ rfl) (by decide) rfl (fun c4 => ?_) (fun c4 => ?_)
    · replace H := H.1 c4
      refine ev_aload_n (pc1 := 69) rfl rfl (TBof tbs_101 _ rfl) rfl ?_
      refine ev_getP (pc1 := 72) (ci := 4) (k := 0) (a := 74) (TBof tbs_101 _ rfl) rfl (fldof mo_101 fl_4_7) ltc_73 sh_73 nk_4_0 fp_4_0 (by decide) pf_73_0 ?_
      refine ev_iload_n (pc1 := 73) rfl (TBof tbs_101 _ rfl) rfl ?_
      refine ev_callsI (pc1 := 76) (as := [.int v1]) (r := [.ref 74]) (TBof tbs_101 _ rfl) rfl (lnkof mo_101 ln_4_43) (Or.inl rfl) rfl na_85 (Nat.le_of_ble_eq_true rfl) H (fun x5 M5 h5 D5 H => ?_)
      refine ev_iconst (pc1 := 77) (x := 0) (by decide) (TBof tbs_101 _ rfl) rfl ?_
      refine ev_iadd (pc1 := 78) (TBof tbs_101 _ rfl) rfl ?_
      refine ev_iaload (pc1 := 79) (n := 168) (TBof tbs_101 _ rfl) rfl ltc_74 sh_74 H.1 ?_
      replace H := H.2
      refine ev_iload_n (pc1 := 80) rfl (TBof tbs_101 _ rfl) rfl ?_
      refine ev_icmp (pc1 := 83) (t := 101) (TBof tbs_101 _ rfl) (by decide) rfl (fun c6 => ?_) (fun c6 => ?_)
      · replace H := H.1 c6
        exact ev_le [0, 1, 2, 3] rfl rfl H
      · replace H := H.2 c6
        refine ev_aload_n (pc1 := 84) rfl rfl (TBof tbs_101 _ rfl) rfl ?_
        refine ev_getP (pc1 := 87) (ci := 4) (k := 0) (a := 74) (TBof tbs_101 _ rfl) rfl (fldof mo_101 fl_4_7) ltc_73 sh_73 nk_4_0 fp_4_0 (by decide) pf_73_0 ?_
        refine ev_iload_n (pc1 := 88) rfl (TBof tbs_101 _ rfl) rfl ?_
        refine ev_callsI (pc1 := 91) (as := [.int v1]) (r := [.ref 74]) (TBof tbs_101 _ rfl) rfl (lnkof mo_101 ln_4_43) (Or.inl rfl) rfl na_85 (Nat.le_of_ble_eq_true rfl) H (fun x7 M7 h7 D7 H => ?_)
        refine ev_iconst (pc1 := 92) (x := 1) (by decide) (TBof tbs_101 _ rfl) rfl ?_
        refine ev_iadd (pc1 := 93) (TBof tbs_101 _ rfl) rfl ?_
        refine ev_iaload (pc1 := 94) (n := 168) (TBof tbs_101 _ rfl) rfl ltc_74 sh_74 H.1 ?_
        replace H := H.2
        refine ev_iload_n (pc1 := 95) rfl (TBof tbs_101 _ rfl) rfl ?_
        refine ev_icmp (pc1 := 98) (t := 101) (TBof tbs_101 _ rfl) (by decide) rfl (fun c8 => ?_) (fun c8 => ?_)
        · replace H := H.1 c8
          exact ev_le [0, 1, 2, 3] rfl rfl H
        · replace H := H.2 c8
          refine ev_bipush (pc1 := 100) (x := (-5)) (by decide) (TBof tbs_101 _ rfl) rfl ?_
          exact ev_ireturn (TBof tbs_101 _ rfl) (retI_i rt_101) ⟨_, rfl, H⟩
    · replace H := H.2 c4
      refine ev_bipush (pc1 := 67) (x := (-4)) (by decide) (TBof tbs_101 _ rfl) rfl ?_
      exact ev_ireturn (TBof tbs_101 _ rfl) (retI_i rt_101) ⟨_, rfl, H⟩
  · replace H := H.2 c2
    refine ev_bipush (pc1 := 57) (x := (-2)) (by decide) (TBof tbs_101 _ rfl) rfl ?_
    exact ev_ireturn (TBof tbs_101 _ rfl) (retI_i rt_101) ⟨_, rfl, H⟩
set_option maxRecDepth 100000 in
theorem R_X4_lay_101 {d : Nat} {v1 v2 v3 : Int32} {M : Im} {h : Hm} {D : Dm} {Q : Int32 → Im → Hm → Dm → Prop} (H : CV d nX4_record [.ref 73] M h D (fun M1 h1 D1 => CI d nX4_t [.int v1] M1 h1 D1 (fun x2 M2 h2 D2 => vp_in (x2 + 0) 168 ∧ (CI d nX4_t [.int v1] (up2 M2 74 ((x2 + 0).toNatClampNeg) v2) h2 D2 (fun x3 M3 h3 D3 => vp_in (x3 + 1) 168 ∧ (CI d nX4_laidMany [.ref 73] (up2 M3 74 ((x3 + 1).toNatClampNeg) v3) h3 D3 (fun x4 M4 h4 D4 => Q x4 M4 h4 D4))))))) : EvI d nX4_lay 101 [(0, .ref 73), (1, .int v1), (2, .int v2), (3, .int v3)] [] M h D Q := by
  refine ev_aload_n (pc1 := 102) rfl rfl (TBof tbs_101 _ rfl) rfl ?_
  refine ev_callvV (pc1 := 105) (as := []) (r := []) (TBof tbs_101 _ rfl) rfl (lnkof mo_101 ln_4_66) rfl na_87 ltc_73 (sh_73.trans (by rw [mo_87])) (Nat.le_of_ble_eq_true rfl) H (fun M1 h1 D1 H => ?_)
  refine ev_aload_n (pc1 := 106) rfl rfl (TBof tbs_101 _ rfl) rfl ?_
  refine ev_getP (pc1 := 109) (ci := 4) (k := 0) (a := 74) (TBof tbs_101 _ rfl) rfl (fldof mo_101 fl_4_7) ltc_73 sh_73 nk_4_0 fp_4_0 (by decide) pf_73_0 ?_
  refine ev_iload_n (pc1 := 110) rfl (TBof tbs_101 _ rfl) rfl ?_
  refine ev_callsI (pc1 := 113) (as := [.int v1]) (r := [.ref 74]) (TBof tbs_101 _ rfl) rfl (lnkof mo_101 ln_4_43) (Or.inl rfl) rfl na_85 (Nat.le_of_ble_eq_true rfl) H (fun x2 M2 h2 D2 H => ?_)
  refine ev_iconst (pc1 := 114) (x := 0) (by decide) (TBof tbs_101 _ rfl) rfl ?_
  refine ev_iadd (pc1 := 115) (TBof tbs_101 _ rfl) rfl ?_
  refine ev_iload_n (pc1 := 116) rfl (TBof tbs_101 _ rfl) rfl ?_
  refine ev_iastore (pc1 := 117) (n := 168) (TBof tbs_101 _ rfl) rfl ltc_74 sh_74 H.1 ?_
  replace H := H.2
  refine ev_aload_n (pc1 := 118) rfl rfl (TBof tbs_101 _ rfl) rfl ?_
  refine ev_getP (pc1 := 121) (ci := 4) (k := 0) (a := 74) (TBof tbs_101 _ rfl) rfl (fldof mo_101 fl_4_7) ltc_73 sh_73 nk_4_0 fp_4_0 (by decide) pf_73_0 ?_
  refine ev_iload_n (pc1 := 122) rfl (TBof tbs_101 _ rfl) rfl ?_
  refine ev_callsI (pc1 := 125) (as := [.int v1]) (r := [.ref 74]) (TBof tbs_101 _ rfl) rfl (lnkof mo_101 ln_4_43) (Or.inl rfl) rfl na_85 (Nat.le_of_ble_eq_true rfl) H (fun x3 M3 h3 D3 H => ?_)
  refine ev_iconst (pc1 := 126) (x := 1) (by decide) (TBof tbs_101 _ rfl) rfl ?_
  refine ev_iadd (pc1 := 127) (TBof tbs_101 _ rfl) rfl ?_
  refine ev_iload_n (pc1 := 128) rfl (TBof tbs_101 _ rfl) rfl ?_
  refine ev_iastore (pc1 := 129) (n := 168) (TBof tbs_101 _ rfl) rfl ltc_74 sh_74 H.1 ?_
  replace H := H.2
  refine ev_aload_n (pc1 := 130) rfl rfl (TBof tbs_101 _ rfl) rfl ?_
  refine ev_callvI (pc1 := 133) (as := []) (r := []) (TBof tbs_101 _ rfl) rfl (lnkof mo_101 ln_4_99) rfl na_100 ltc_73 (sh_73.trans (by rw [mo_100])) (Nat.le_of_ble_eq_true rfl) H (fun x4 M4 h4 D4 H => ?_)
  exact ev_ireturn (TBof tbs_101 _ rfl) (retI_i rt_101) ⟨_, rfl, H⟩
set_option maxRecDepth 100000 in
theorem R_X4_lacksHolder_0 {d : Nat} {M : Im} {h : Hm} {D : Dm} {Q : Int32 → Im → Hm → Dm → Prop} (H : EvI d nX4_lacksHolder 4 [(0, .ref 73), (1, .int 0), (2, .int 0)] [] M h D Q) : EvI d nX4_lacksHolder 0 [(0, .ref 73)] [] M h D Q := by
  refine ev_iconst (pc1 := 1) (x := 0) (by decide) (TBof tbs_102 _ rfl) rfl ?_
  refine ev_istore_n (pc1 := 2) (L1 := [(1, .int 0), (0, .ref 73)]) (by rw [ml_102]; decide) rfl (TBof tbs_102 _ rfl) rfl ?_
  refine ev_iconst (pc1 := 3) (x := 0) (by decide) (TBof tbs_102 _ rfl) rfl ?_
  refine ev_istore_n (pc1 := 4) (L1 := [(2, .int 0), (1, .int 0), (0, .ref 73)]) (by rw [ml_102]; decide) rfl (TBof tbs_102 _ rfl) rfl ?_
  exact ev_le [2, 1, 0] rfl rfl H
set_option maxRecDepth 100000 in
theorem R_X4_lacksHolder_4 {d : Nat} {v1 v2 : Int32} {M : Im} {h : Hm} {D : Dm} {Q : Int32 → Im → Hm → Dm → Prop} (H : vp_in 0 168 ∧ ((((M 74 ((0 : Int32).toNatClampNeg)) ≤ v2) → ((v1 = 0 ∨ v1 = 1) ∧ Q v1 M h D)) ∧ (¬ ((M 74 ((0 : Int32).toNatClampNeg)) ≤ v2) → (((¬ (v1 = 0)) → (EvI d nX4_lacksHolder 4 [(0, .ref 73), (1, .int 1), (2, .int (v2 + 1))] [] M h D Q)) ∧ (¬ (¬ (v1 = 0)) → (CI d nX4_d [.int v2] M h D (fun x3 M3 h3 D3 => vp_in (x3 + 1) 168 ∧ (((¬ ((M3 74 ((x3 + 1).toNatClampNeg)) = 2)) → (EvI d nX4_lacksHolder 4 [(0, .ref 73), (1, .int 0), (2, .int (v2 + 1))] [] M3 h3 D3 Q)) ∧ (¬ (¬ ((M3 74 ((x3 + 1).toNatClampNeg)) = 2)) → (CI d nX4_d [.int v2] M3 h3 D3 (fun x5 M5 h5 D5 => vp_in (x5 + 2) 168 ∧ (vp_in 0 168 ∧ ((((M5 74 ((x5 + 2).toNatClampNeg)) < (M5 74 ((0 : Int32).toNatClampNeg))) → (EvI d nX4_lacksHolder 4 [(0, .ref 73), (1, .int 0), (2, .int (v2 + 1))] [] M5 h5 D5 Q)) ∧ (¬ ((M5 74 ((x5 + 2).toNatClampNeg)) < (M5 74 ((0 : Int32).toNatClampNeg))) → (EvI d nX4_lacksHolder 4 [(0, .ref 73), (1, .int 1), (2, .int (v2 + 1))] [] M5 h5 D5 Q))))))))))))))) : EvI d nX4_lacksHolder 4 [(0, .ref 73), (1, .int v1), (2, .int v2)] [] M h D Q := by
  refine ev_iload_n (pc1 := 5) rfl (TBof tbs_102 _ rfl) rfl ?_
  refine ev_aload_n (pc1 := 6) rfl rfl (TBof tbs_102 _ rfl) rfl ?_
  refine ev_getP (pc1 := 9) (ci := 4) (k := 0) (a := 74) (TBof tbs_102 _ rfl) rfl (fldof mo_102 fl_4_7) ltc_73 sh_73 nk_4_0 fp_4_0 (by decide) pf_73_0 ?_
  refine ev_iconst (pc1 := 10) (x := 0) (by decide) (TBof tbs_102 _ rfl) rfl ?_
  refine ev_iaload (pc1 := 11) (n := 168) (TBof tbs_102 _ rfl) rfl ltc_74 sh_74 H.1 ?_
  replace H := H.2
  refine ev_icmp (pc1 := 14) (t := 65) (TBof tbs_102 _ rfl) (by decide) rfl (fun c1 => ?_) (fun c1 => ?_)
  · replace H := H.1 c1
    refine ev_iload_n (pc1 := 66) rfl (TBof tbs_102 _ rfl) rfl ?_
    exact ev_ireturn (TBof tbs_102 _ rfl) (retI_z rt_102 H.1) ⟨_, rfl, H.2⟩
  · replace H := H.2 c1
    refine ev_iload_n (pc1 := 15) rfl (TBof tbs_102 _ rfl) rfl ?_
    refine ev_if (pc1 := 18) (t := 53) (TBof tbs_102 _ rfl) (by decide) rfl (fun c2 => ?_) (fun c2 => ?_)
    · replace H := H.1 c2
      refine ev_iconst (pc1 := 54) (x := 1) (by decide) (TBof tbs_102 _ rfl) rfl ?_
      refine ev_goto (pc1 := 58) (TBof tbs_102 _ rfl) (by decide) ?_
      refine ev_istore_n (pc1 := 59) (L1 := [(1, .int 1), (0, .ref 73), (2, .int v2)]) (by rw [ml_102]; decide) rfl (TBof tbs_102 _ rfl) rfl ?_
      refine ev_iinc (pc1 := 62) (n := 2) (c := 1) (x := v2) (cc := 1) (L1 := [(2, .int (v2 + 1)), (1, .int 1), (0, .ref 73)]) rfl (by rw [ml_102]; decide) (by decide) rfl (TBof tbs_102 _ rfl) rfl ?_
      refine ev_goto (pc1 := 4) (TBof tbs_102 _ rfl) (by decide) ?_
      exact ev_le [2, 1, 0] rfl rfl H
    · replace H := H.2 c2
      refine ev_aload_n (pc1 := 19) rfl rfl (TBof tbs_102 _ rfl) rfl ?_
      refine ev_getP (pc1 := 22) (ci := 4) (k := 0) (a := 74) (TBof tbs_102 _ rfl) rfl (fldof mo_102 fl_4_7) ltc_73 sh_73 nk_4_0 fp_4_0 (by decide) pf_73_0 ?_
      refine ev_iload_n (pc1 := 23) rfl (TBof tbs_102 _ rfl) rfl ?_
      refine ev_callsI (pc1 := 26) (as := [.int v2]) (r := [.ref 74]) (TBof tbs_102 _ rfl) rfl (lnkof mo_102 ln_4_55) (Or.inl rfl) rfl na_86 (Nat.le_of_ble_eq_true rfl) H (fun x3 M3 h3 D3 H => ?_)
      refine ev_iconst (pc1 := 27) (x := 1) (by decide) (TBof tbs_102 _ rfl) rfl ?_
      refine ev_iadd (pc1 := 28) (TBof tbs_102 _ rfl) rfl ?_
      refine ev_iaload (pc1 := 29) (n := 168) (TBof tbs_102 _ rfl) rfl ltc_74 sh_74 H.1 ?_
      replace H := H.2
      refine ev_iconst (pc1 := 30) (x := 2) (by decide) (TBof tbs_102 _ rfl) rfl ?_
      refine ev_icmp (pc1 := 33) (t := 57) (TBof tbs_102 _ rfl) (by decide) rfl (fun c4 => ?_) (fun c4 => ?_)
      · replace H := H.1 c4
        refine ev_iconst (pc1 := 58) (x := 0) (by decide) (TBof tbs_102 _ rfl) rfl ?_
        refine ev_istore_n (pc1 := 59) (L1 := [(1, .int 0), (0, .ref 73), (2, .int v2)]) (by rw [ml_102]; decide) rfl (TBof tbs_102 _ rfl) rfl ?_
        refine ev_iinc (pc1 := 62) (n := 2) (c := 1) (x := v2) (cc := 1) (L1 := [(2, .int (v2 + 1)), (1, .int 0), (0, .ref 73)]) rfl (by rw [ml_102]; decide) (by decide) rfl (TBof tbs_102 _ rfl) rfl ?_
        refine ev_goto (pc1 := 4) (TBof tbs_102 _ rfl) (by decide) ?_
        exact ev_le [2, 1, 0] rfl rfl H
      · replace H := H.2 c4
        refine ev_aload_n (pc1 := 34) rfl rfl (TBof tbs_102 _ rfl) rfl ?_
        refine ev_getP (pc1 := 37) (ci := 4) (k := 0) (a := 74) (TBof tbs_102 _ rfl) rfl (fldof mo_102 fl_4_7) ltc_73 sh_73 nk_4_0 fp_4_0 (by decide) pf_73_0 ?_
        refine ev_iload_n (pc1 := 38) rfl (TBof tbs_102 _ rfl) rfl ?_
        refine ev_callsI (pc1 := 41) (as := [.int v2]) (r := [.ref 74]) (TBof tbs_102 _ rfl) rfl (lnkof mo_102 ln_4_55) (Or.inl rfl) rfl na_86 (Nat.le_of_ble_eq_true rfl) H (fun x5 M5 h5 D5 H => ?_)
        refine ev_iconst (pc1 := 42) (x := 2) (by decide) (TBof tbs_102 _ rfl) rfl ?_
        refine ev_iadd (pc1 := 43) (TBof tbs_102 _ rfl) rfl ?_
        refine ev_iaload (pc1 := 44) (n := 168) (TBof tbs_102 _ rfl) rfl ltc_74 sh_74 H.1 ?_
        replace H := H.2
        refine ev_aload_n (pc1 := 45) rfl rfl (TBof tbs_102 _ rfl) rfl ?_
        refine ev_getP (pc1 := 48) (ci := 4) (k := 0) (a := 74) (TBof tbs_102 _ rfl) rfl (fldof mo_102 fl_4_7) ltc_73 sh_73 nk_4_0 fp_4_0 (by decide) pf_73_0 ?_
        refine ev_iconst (pc1 := 49) (x := 0) (by decide) (TBof tbs_102 _ rfl) rfl ?_
        refine ev_iaload (pc1 := 50) (n := 168) (TBof tbs_102 _ rfl) rfl ltc_74 sh_74 H.1 ?_
        replace H := H.2
        refine ev_icmp (pc1 := 53) (t := 57) (TBof tbs_102 _ rfl) (by decide) rfl (fun c6 => ?_) (fun c6 => ?_)
        · replace H := H.1 c6
          refine ev_iconst (pc1 := 58) (x := 0) (by decide) (TBof tbs_102 _ rfl) rfl ?_
          refine ev_istore_n (pc1 := 59) (L1 := [(1, .int 0), (0, .ref 73), (2, .int v2)]) (by rw [ml_102]; decide) rfl (TBof tbs_102 _ rfl) rfl ?_
          refine ev_iinc (pc1 := 62) (n := 2) (c := 1) (x := v2) (cc := 1) (L1 := [(2, .int (v2 + 1)), (1, .int 0), (0, .ref 73)]) rfl (by rw [ml_102]; decide) (by decide) rfl (TBof tbs_102 _ rfl) rfl ?_
          refine ev_goto (pc1 := 4) (TBof tbs_102 _ rfl) (by decide) ?_
          exact ev_le [2, 1, 0] rfl rfl H
        · replace H := H.2 c6
          refine ev_iconst (pc1 := 54) (x := 1) (by decide) (TBof tbs_102 _ rfl) rfl ?_
          refine ev_goto (pc1 := 58) (TBof tbs_102 _ rfl) (by decide) ?_
          refine ev_istore_n (pc1 := 59) (L1 := [(1, .int 1), (0, .ref 73), (2, .int v2)]) (by rw [ml_102]; decide) rfl (TBof tbs_102 _ rfl) rfl ?_
          refine ev_iinc (pc1 := 62) (n := 2) (c := 1) (x := v2) (cc := 1) (L1 := [(2, .int (v2 + 1)), (1, .int 1), (0, .ref 73)]) rfl (by rw [ml_102]; decide) (by decide) rfl (TBof tbs_102 _ rfl) rfl ?_
          refine ev_goto (pc1 := 4) (TBof tbs_102 _ rfl) (by decide) ?_
          exact ev_le [2, 1, 0] rfl rfl H
set_option maxRecDepth 100000 in
theorem R_X4_asLaid_0 {d : Nat} {M : Im} {h : Hm} {D : Dm} {Q : Im → Hm → Dm → Prop} (H : vp_in 2 168 ∧ (vp_in 0 6 ∧ (EvV d nX4_asLaid 16 [(0, .ref 73), (1, .int 0)] [] (up2 M 74 ((2 : Int32).toNatClampNeg) 0) h (up2 D 77 ((0 : Int32).toNatClampNeg) FP.dconst0) Q))) : EvV d nX4_asLaid 0 [(0, .ref 73)] [] M h D Q := by
  refine ev_aload_n (pc1 := 1) rfl rfl (TBof tbs_103 _ rfl) rfl ?_
  refine ev_getP (pc1 := 4) (ci := 4) (k := 0) (a := 74) (TBof tbs_103 _ rfl) rfl (fldof mo_103 fl_4_7) ltc_73 sh_73 nk_4_0 fp_4_0 (by decide) pf_73_0 ?_
  refine ev_iconst (pc1 := 5) (x := 2) (by decide) (TBof tbs_103 _ rfl) rfl ?_
  refine ev_iconst (pc1 := 6) (x := 0) (by decide) (TBof tbs_103 _ rfl) rfl ?_
  refine ev_iastore (pc1 := 7) (n := 168) (TBof tbs_103 _ rfl) rfl ltc_74 sh_74 H.1 ?_
  replace H := H.2
  refine ev_aload_n (pc1 := 8) rfl rfl (TBof tbs_103 _ rfl) rfl ?_
  refine ev_getP (pc1 := 11) (ci := 4) (k := 3) (a := 77) (TBof tbs_103 _ rfl) rfl (fldof mo_103 fl_4_19) ltc_73 sh_73 nk_4_3 fp_4_3 (by decide) pf_73_3 ?_
  refine ev_iconst (pc1 := 12) (x := 0) (by decide) (TBof tbs_103 _ rfl) rfl ?_
  refine ev_dconst0 (pc1 := 13) (TBof tbs_103 _ rfl) rfl ?_
  refine ev_dastore (pc1 := 14) (n := 6) (TBof tbs_103 _ rfl) rfl ltc_77 sh_77 H.1 ?_
  replace H := H.2
  refine ev_iconst (pc1 := 15) (x := 0) (by decide) (TBof tbs_103 _ rfl) rfl ?_
  refine ev_istore_n (pc1 := 16) (L1 := [(1, .int 0), (0, .ref 73)]) (by rw [ml_103]; decide) rfl (TBof tbs_103 _ rfl) rfl ?_
  exact ev_le [1, 0] rfl rfl H
set_option maxRecDepth 100000 in
theorem R_X4_asLaid_16 {d : Nat} {v1 : Int32} {M : Im} {h : Hm} {D : Dm} {Q : Im → Hm → Dm → Prop} (H : ((12 ≤ v1) → (EvV d nX4_asLaid 42 [(0, .ref 73), (1, .int 0)] [] M h D Q)) ∧ (¬ (12 ≤ v1) → (CI d nX4_t [.int v1] M h D (fun x2 M2 h2 D2 => vp_in (x2 + 2) 168 ∧ (EvV d nX4_asLaid 16 [(0, .ref 73), (1, .int (v1 + 1))] [] (up2 M2 74 ((x2 + 2).toNatClampNeg) 0) h2 D2 Q))))) : EvV d nX4_asLaid 16 [(0, .ref 73), (1, .int v1)] [] M h D Q := by
  refine ev_iload_n (pc1 := 17) rfl (TBof tbs_103 _ rfl) rfl ?_
  refine ev_bipush (pc1 := 19) (x := 12) (by decide) (TBof tbs_103 _ rfl) rfl ?_
  refine ev_icmp (pc1 := 22) (t := 40) (TBof tbs_103 _ rfl) (by decide) rfl (fun c1 => ?_) (fun c1 => ?_)
  · replace H := H.1 c1
    refine ev_iconst (pc1 := 41) (x := 0) (by decide) (TBof tbs_103 _ rfl) rfl ?_
    refine ev_istore_n (pc1 := 42) (L1 := [(1, .int 0), (0, .ref 73)]) (by rw [ml_103]; decide) rfl (TBof tbs_103 _ rfl) rfl ?_
    exact ev_le [1, 0] rfl rfl H
  · replace H := H.2 c1
    refine ev_aload_n (pc1 := 23) rfl rfl (TBof tbs_103 _ rfl) rfl ?_
    refine ev_getP (pc1 := 26) (ci := 4) (k := 0) (a := 74) (TBof tbs_103 _ rfl) rfl (fldof mo_103 fl_4_7) ltc_73 sh_73 nk_4_0 fp_4_0 (by decide) pf_73_0 ?_
    refine ev_iload_n (pc1 := 27) rfl (TBof tbs_103 _ rfl) rfl ?_
    refine ev_callsI (pc1 := 30) (as := [.int v1]) (r := [.ref 74]) (TBof tbs_103 _ rfl) rfl (lnkof mo_103 ln_4_43) (Or.inl rfl) rfl na_85 (Nat.le_of_ble_eq_true rfl) H (fun x2 M2 h2 D2 H => ?_)
    refine ev_iconst (pc1 := 31) (x := 2) (by decide) (TBof tbs_103 _ rfl) rfl ?_
    refine ev_iadd (pc1 := 32) (TBof tbs_103 _ rfl) rfl ?_
    refine ev_iconst (pc1 := 33) (x := 0) (by decide) (TBof tbs_103 _ rfl) rfl ?_
    refine ev_iastore (pc1 := 34) (n := 168) (TBof tbs_103 _ rfl) rfl ltc_74 sh_74 H.1 ?_
    replace H := H.2
    refine ev_iinc (pc1 := 37) (n := 1) (c := 1) (x := v1) (cc := 1) (L1 := [(1, .int (v1 + 1)), (0, .ref 73)]) rfl (by rw [ml_103]; decide) (by decide) rfl (TBof tbs_103 _ rfl) rfl ?_
    refine ev_goto (pc1 := 16) (TBof tbs_103 _ rfl) (by decide) ?_
    exact ev_le [1, 0] rfl rfl H
set_option maxRecDepth 100000 in
theorem R_X4_asLaid_42 {d : Nat} {v1 : Int32} {M : Im} {h : Hm} {D : Dm} {Q : Im → Hm → Dm → Prop} (H : ((16 ≤ v1) → (Q M h D)) ∧ (¬ (16 ≤ v1) → (CI d nX4_d [.int v1] M h D (fun x2 M2 h2 D2 => vp_in (x2 + 5) 168 ∧ (CI d nX4_d [.int v1] (up2 M2 74 ((x2 + 5).toNatClampNeg) 0) h2 D2 (fun x3 M3 h3 D3 => vp_in (x3 + 6) 168 ∧ (CI d nX4_d [.int v1] (up2 M3 74 ((x3 + 6).toNatClampNeg) 0) h3 D3 (fun x4 M4 h4 D4 => vp_in (x4 + 7) 168 ∧ (EvV d nX4_asLaid 42 [(0, .ref 73), (1, .int (v1 + 1))] [] (up2 M4 74 ((x4 + 7).toNatClampNeg) 0) h4 D4 Q))))))))) : EvV d nX4_asLaid 42 [(0, .ref 73), (1, .int v1)] [] M h D Q := by
  refine ev_iload_n (pc1 := 43) rfl (TBof tbs_103 _ rfl) rfl ?_
  refine ev_bipush (pc1 := 45) (x := 16) (by decide) (TBof tbs_103 _ rfl) rfl ?_
  refine ev_icmp (pc1 := 48) (t := 92) (TBof tbs_103 _ rfl) (by decide) rfl (fun c1 => ?_) (fun c1 => ?_)
  · replace H := H.1 c1
    exact ev_return (TBof tbs_103 _ rfl) rt_103 ⟨rfl, H⟩
  · replace H := H.2 c1
    refine ev_aload_n (pc1 := 49) rfl rfl (TBof tbs_103 _ rfl) rfl ?_
    refine ev_getP (pc1 := 52) (ci := 4) (k := 0) (a := 74) (TBof tbs_103 _ rfl) rfl (fldof mo_103 fl_4_7) ltc_73 sh_73 nk_4_0 fp_4_0 (by decide) pf_73_0 ?_
    refine ev_iload_n (pc1 := 53) rfl (TBof tbs_103 _ rfl) rfl ?_
    refine ev_callsI (pc1 := 56) (as := [.int v1]) (r := [.ref 74]) (TBof tbs_103 _ rfl) rfl (lnkof mo_103 ln_4_55) (Or.inl rfl) rfl na_86 (Nat.le_of_ble_eq_true rfl) H (fun x2 M2 h2 D2 H => ?_)
    refine ev_iconst (pc1 := 57) (x := 5) (by decide) (TBof tbs_103 _ rfl) rfl ?_
    refine ev_iadd (pc1 := 58) (TBof tbs_103 _ rfl) rfl ?_
    refine ev_iconst (pc1 := 59) (x := 0) (by decide) (TBof tbs_103 _ rfl) rfl ?_
    refine ev_iastore (pc1 := 60) (n := 168) (TBof tbs_103 _ rfl) rfl ltc_74 sh_74 H.1 ?_
    replace H := H.2
    refine ev_aload_n (pc1 := 61) rfl rfl (TBof tbs_103 _ rfl) rfl ?_
    refine ev_getP (pc1 := 64) (ci := 4) (k := 0) (a := 74) (TBof tbs_103 _ rfl) rfl (fldof mo_103 fl_4_7) ltc_73 sh_73 nk_4_0 fp_4_0 (by decide) pf_73_0 ?_
    refine ev_iload_n (pc1 := 65) rfl (TBof tbs_103 _ rfl) rfl ?_
    refine ev_callsI (pc1 := 68) (as := [.int v1]) (r := [.ref 74]) (TBof tbs_103 _ rfl) rfl (lnkof mo_103 ln_4_55) (Or.inl rfl) rfl na_86 (Nat.le_of_ble_eq_true rfl) H (fun x3 M3 h3 D3 H => ?_)
    refine ev_bipush (pc1 := 70) (x := 6) (by decide) (TBof tbs_103 _ rfl) rfl ?_
    refine ev_iadd (pc1 := 71) (TBof tbs_103 _ rfl) rfl ?_
    refine ev_iconst (pc1 := 72) (x := 0) (by decide) (TBof tbs_103 _ rfl) rfl ?_
    refine ev_iastore (pc1 := 73) (n := 168) (TBof tbs_103 _ rfl) rfl ltc_74 sh_74 H.1 ?_
    replace H := H.2
    refine ev_aload_n (pc1 := 74) rfl rfl (TBof tbs_103 _ rfl) rfl ?_
    refine ev_getP (pc1 := 77) (ci := 4) (k := 0) (a := 74) (TBof tbs_103 _ rfl) rfl (fldof mo_103 fl_4_7) ltc_73 sh_73 nk_4_0 fp_4_0 (by decide) pf_73_0 ?_
    refine ev_iload_n (pc1 := 78) rfl (TBof tbs_103 _ rfl) rfl ?_
    refine ev_callsI (pc1 := 81) (as := [.int v1]) (r := [.ref 74]) (TBof tbs_103 _ rfl) rfl (lnkof mo_103 ln_4_55) (Or.inl rfl) rfl na_86 (Nat.le_of_ble_eq_true rfl) H (fun x4 M4 h4 D4 H => ?_)
    refine ev_bipush (pc1 := 83) (x := 7) (by decide) (TBof tbs_103 _ rfl) rfl ?_
    refine ev_iadd (pc1 := 84) (TBof tbs_103 _ rfl) rfl ?_
    refine ev_iconst (pc1 := 85) (x := 0) (by decide) (TBof tbs_103 _ rfl) rfl ?_
    refine ev_iastore (pc1 := 86) (n := 168) (TBof tbs_103 _ rfl) rfl ltc_74 sh_74 H.1 ?_
    replace H := H.2
    refine ev_iinc (pc1 := 89) (n := 1) (c := 1) (x := v1) (cc := 1) (L1 := [(1, .int (v1 + 1)), (0, .ref 73)]) rfl (by rw [ml_103]; decide) (by decide) rfl (TBof tbs_103 _ rfl) rfl ?_
    refine ev_goto (pc1 := 42) (TBof tbs_103 _ rfl) (by decide) ?_
    exact ev_le [1, 0] rfl rfl H
set_option maxRecDepth 100000 in
theorem R_X4_begin_0 {d : Nat} {M : Im} {h : Hm} {D : Dm} {Q : Int32 → Im → Hm → Dm → Prop} (H : CI d nX4_isGame [.ref 73] M h D (fun x1 M1 h1 D1 => ((¬ (x1 = 0)) → (Q (-4) M1 h1 D1)) ∧ (¬ (¬ (x1 = 0)) → (vp_in 0 168 ∧ ((((M1 74 ((0 : Int32).toNatClampNeg)) = 0) → (Q (-4) M1 h1 D1)) ∧ (¬ ((M1 74 ((0 : Int32).toNatClampNeg)) = 0) → (CI d nX4_lacksHolder [.ref 73] M1 h1 D1 (fun x4 M4 h4 D4 => ((x4 = 0) → (CV d nX4_record [.ref 73] M4 h4 D4 (fun M6 h6 D6 => CV d nX4_asLaid [.ref 73] M6 h6 D6 (fun M7 h7 D7 => vp_in 1 168 ∧ (vp_in 0 168 ∧ (Q ((up2 M7 74 ((1 : Int32).toNatClampNeg) 1) 74 ((0 : Int32).toNatClampNeg)) (up2 M7 74 ((1 : Int32).toNatClampNeg) 1) h7 D7)))))) ∧ (¬ (x4 = 0) → (Q (-4) M4 h4 D4)))))))))) : EvI d nX4_begin 0 [(0, .ref 73)] [] M h D Q := by
  refine ev_aload_n (pc1 := 1) rfl rfl (TBof tbs_104 _ rfl) rfl ?_
  refine ev_callvI (pc1 := 4) (as := []) (r := []) (TBof tbs_104 _ rfl) rfl (lnkof mo_104 ln_4_62) rfl na_89 ltc_73 (sh_73.trans (by rw [mo_89])) (Nat.le_of_ble_eq_true rfl) H (fun x1 M1 h1 D1 H => ?_)
  refine ev_if (pc1 := 7) (t := 23) (TBof tbs_104 _ rfl) (by decide) rfl (fun c2 => ?_) (fun c2 => ?_)
  · replace H := H.1 c2
    refine ev_bipush (pc1 := 25) (x := (-4)) (by decide) (TBof tbs_104 _ rfl) rfl ?_
    exact ev_ireturn (TBof tbs_104 _ rfl) (retI_i rt_104) ⟨_, rfl, H⟩
  · replace H := H.2 c2
    refine ev_aload_n (pc1 := 8) rfl rfl (TBof tbs_104 _ rfl) rfl ?_
    refine ev_getP (pc1 := 11) (ci := 4) (k := 0) (a := 74) (TBof tbs_104 _ rfl) rfl (fldof mo_104 fl_4_7) ltc_73 sh_73 nk_4_0 fp_4_0 (by decide) pf_73_0 ?_
    refine ev_iconst (pc1 := 12) (x := 0) (by decide) (TBof tbs_104 _ rfl) rfl ?_
    refine ev_iaload (pc1 := 13) (n := 168) (TBof tbs_104 _ rfl) rfl ltc_74 sh_74 H.1 ?_
    replace H := H.2
    refine ev_if (pc1 := 16) (t := 23) (TBof tbs_104 _ rfl) (by decide) rfl (fun c3 => ?_) (fun c3 => ?_)
    · replace H := H.1 c3
      refine ev_bipush (pc1 := 25) (x := (-4)) (by decide) (TBof tbs_104 _ rfl) rfl ?_
      exact ev_ireturn (TBof tbs_104 _ rfl) (retI_i rt_104) ⟨_, rfl, H⟩
    · replace H := H.2 c3
      refine ev_aload_n (pc1 := 17) rfl rfl (TBof tbs_104 _ rfl) rfl ?_
      refine ev_callvI (pc1 := 20) (as := []) (r := []) (TBof tbs_104 _ rfl) rfl (lnkof mo_104 ln_4_102) rfl na_102 ltc_73 (sh_73.trans (by rw [mo_102])) (Nat.le_of_ble_eq_true rfl) H (fun x4 M4 h4 D4 H => ?_)
      refine ev_if (pc1 := 23) (t := 26) (TBof tbs_104 _ rfl) (by decide) rfl (fun c5 => ?_) (fun c5 => ?_)
      · replace H := H.1 c5
        refine ev_aload_n (pc1 := 27) rfl rfl (TBof tbs_104 _ rfl) rfl ?_
        refine ev_callvV (pc1 := 30) (as := []) (r := []) (TBof tbs_104 _ rfl) rfl (lnkof mo_104 ln_4_66) rfl na_87 ltc_73 (sh_73.trans (by rw [mo_87])) (Nat.le_of_ble_eq_true rfl) H (fun M6 h6 D6 H => ?_)
        refine ev_aload_n (pc1 := 31) rfl rfl (TBof tbs_104 _ rfl) rfl ?_
        refine ev_callvV (pc1 := 34) (as := []) (r := []) (TBof tbs_104 _ rfl) rfl (lnkof mo_104 ln_4_105) rfl na_103 ltc_73 (sh_73.trans (by rw [mo_103])) (Nat.le_of_ble_eq_true rfl) H (fun M7 h7 D7 H => ?_)
        refine ev_aload_n (pc1 := 35) rfl rfl (TBof tbs_104 _ rfl) rfl ?_
        refine ev_getP (pc1 := 38) (ci := 4) (k := 0) (a := 74) (TBof tbs_104 _ rfl) rfl (fldof mo_104 fl_4_7) ltc_73 sh_73 nk_4_0 fp_4_0 (by decide) pf_73_0 ?_
        refine ev_iconst (pc1 := 39) (x := 1) (by decide) (TBof tbs_104 _ rfl) rfl ?_
        refine ev_iconst (pc1 := 40) (x := 1) (by decide) (TBof tbs_104 _ rfl) rfl ?_
        refine ev_iastore (pc1 := 41) (n := 168) (TBof tbs_104 _ rfl) rfl ltc_74 sh_74 H.1 ?_
        replace H := H.2
        refine ev_aload_n (pc1 := 42) rfl rfl (TBof tbs_104 _ rfl) rfl ?_
        refine ev_getP (pc1 := 45) (ci := 4) (k := 0) (a := 74) (TBof tbs_104 _ rfl) rfl (fldof mo_104 fl_4_7) ltc_73 sh_73 nk_4_0 fp_4_0 (by decide) pf_73_0 ?_
        refine ev_iconst (pc1 := 46) (x := 0) (by decide) (TBof tbs_104 _ rfl) rfl ?_
        refine ev_iaload (pc1 := 47) (n := 168) (TBof tbs_104 _ rfl) rfl ltc_74 sh_74 H.1 ?_
        replace H := H.2
        exact ev_ireturn (TBof tbs_104 _ rfl) (retI_i rt_104) ⟨_, rfl, H⟩
      · replace H := H.2 c5
        refine ev_bipush (pc1 := 25) (x := (-4)) (by decide) (TBof tbs_104 _ rfl) rfl ?_
        exact ev_ireturn (TBof tbs_104 _ rfl) (retI_i rt_104) ⟨_, rfl, H⟩
set_option maxRecDepth 100000 in
theorem R_X4_giveUp_0 {d : Nat} {M : Im} {h : Hm} {D : Dm} {Q : Int32 → Im → Hm → Dm → Prop} (H : CI d nX4_isGame [.ref 73] M h D (fun x1 M1 h1 D1 => ((¬ (x1 = 0)) → (CV d nX4_record [.ref 73] M1 h1 D1 (fun M3 h3 D3 => vp_in 2 168 ∧ (CV d nX4_asLaid [.ref 73] M3 h3 D3 (fun M4 h4 D4 => vp_in 1 168 ∧ (Q (M3 74 ((2 : Int32).toNatClampNeg)) (up2 M4 74 ((1 : Int32).toNatClampNeg) 0) h4 D4)))))) ∧ (¬ (¬ (x1 = 0)) → (Q (-4) M1 h1 D1)))) : EvI d nX4_giveUp 0 [(0, .ref 73)] [] M h D Q := by
  refine ev_aload_n (pc1 := 1) rfl rfl (TBof tbs_105 _ rfl) rfl ?_
  refine ev_callvI (pc1 := 4) (as := []) (r := []) (TBof tbs_105 _ rfl) rfl (lnkof mo_105 ln_4_62) rfl na_89 ltc_73 (sh_73.trans (by rw [mo_89])) (Nat.le_of_ble_eq_true rfl) H (fun x1 M1 h1 D1 H => ?_)
  refine ev_if (pc1 := 7) (t := 10) (TBof tbs_105 _ rfl) (by decide) rfl (fun c2 => ?_) (fun c2 => ?_)
  · replace H := H.1 c2
    refine ev_aload_n (pc1 := 11) rfl rfl (TBof tbs_105 _ rfl) rfl ?_
    refine ev_callvV (pc1 := 14) (as := []) (r := []) (TBof tbs_105 _ rfl) rfl (lnkof mo_105 ln_4_66) rfl na_87 ltc_73 (sh_73.trans (by rw [mo_87])) (Nat.le_of_ble_eq_true rfl) H (fun M3 h3 D3 H => ?_)
    refine ev_aload_n (pc1 := 15) rfl rfl (TBof tbs_105 _ rfl) rfl ?_
    refine ev_getP (pc1 := 18) (ci := 4) (k := 0) (a := 74) (TBof tbs_105 _ rfl) rfl (fldof mo_105 fl_4_7) ltc_73 sh_73 nk_4_0 fp_4_0 (by decide) pf_73_0 ?_
    refine ev_iconst (pc1 := 19) (x := 2) (by decide) (TBof tbs_105 _ rfl) rfl ?_
    refine ev_iaload (pc1 := 20) (n := 168) (TBof tbs_105 _ rfl) rfl ltc_74 sh_74 H.1 ?_
    replace H := H.2
    refine ev_istore_n (pc1 := 21) (L1 := [(1, .int (M3 74 ((2 : Int32).toNatClampNeg))), (0, .ref 73)]) (by rw [ml_105]; decide) rfl (TBof tbs_105 _ rfl) rfl ?_
    refine ev_aload_n (pc1 := 22) rfl rfl (TBof tbs_105 _ rfl) rfl ?_
    refine ev_callvV (pc1 := 25) (as := []) (r := []) (TBof tbs_105 _ rfl) rfl (lnkof mo_105 ln_4_105) rfl na_103 ltc_73 (sh_73.trans (by rw [mo_103])) (Nat.le_of_ble_eq_true rfl) H (fun M4 h4 D4 H => ?_)
    refine ev_aload_n (pc1 := 26) rfl rfl (TBof tbs_105 _ rfl) rfl ?_
    refine ev_getP (pc1 := 29) (ci := 4) (k := 0) (a := 74) (TBof tbs_105 _ rfl) rfl (fldof mo_105 fl_4_7) ltc_73 sh_73 nk_4_0 fp_4_0 (by decide) pf_73_0 ?_
    refine ev_iconst (pc1 := 30) (x := 1) (by decide) (TBof tbs_105 _ rfl) rfl ?_
    refine ev_iconst (pc1 := 31) (x := 0) (by decide) (TBof tbs_105 _ rfl) rfl ?_
    refine ev_iastore (pc1 := 32) (n := 168) (TBof tbs_105 _ rfl) rfl ltc_74 sh_74 H.1 ?_
    replace H := H.2
    refine ev_iload_n (pc1 := 33) rfl (TBof tbs_105 _ rfl) rfl ?_
    exact ev_ireturn (TBof tbs_105 _ rfl) (retI_i rt_105) ⟨_, rfl, H⟩
  · replace H := H.2 c2
    refine ev_bipush (pc1 := 9) (x := (-4)) (by decide) (TBof tbs_105 _ rfl) rfl ?_
    exact ev_ireturn (TBof tbs_105 _ rfl) (retI_i rt_105) ⟨_, rfl, H⟩
set_option maxRecDepth 100000 in
theorem R_X4_isReached_0 {d : Nat} {v1 : Int32} {M : Im} {h : Hm} {D : Dm} {Q : Int32 → Im → Hm → Dm → Prop} (H : CI d nX4_d [.int v1] M h D (fun x1 M1 h1 D1 => vp_in (x1 + 0) 168 ∧ (EvI d nX4_isReached 14 [(0, .ref 73), (1, .int v1), (2, .int 1), (3, .int (M1 74 ((x1 + 0).toNatClampNeg)))] [] M1 h1 D1 Q))) : EvI d nX4_isReached 0 [(0, .ref 73), (1, .int v1)] [] M h D Q := by
  refine ev_iconst (pc1 := 1) (x := 1) (by decide) (TBof tbs_106 _ rfl) rfl ?_
  refine ev_istore_n (pc1 := 2) (L1 := [(2, .int 1), (0, .ref 73), (1, .int v1)]) (by rw [ml_106]; decide) rfl (TBof tbs_106 _ rfl) rfl ?_
  refine ev_aload_n (pc1 := 3) rfl rfl (TBof tbs_106 _ rfl) rfl ?_
  refine ev_getP (pc1 := 6) (ci := 4) (k := 0) (a := 74) (TBof tbs_106 _ rfl) rfl (fldof mo_106 fl_4_7) ltc_73 sh_73 nk_4_0 fp_4_0 (by decide) pf_73_0 ?_
  refine ev_iload_n (pc1 := 7) rfl (TBof tbs_106 _ rfl) rfl ?_
  refine ev_callsI (pc1 := 10) (as := [.int v1]) (r := [.ref 74]) (TBof tbs_106 _ rfl) rfl (lnkof mo_106 ln_4_55) (Or.inl rfl) rfl na_86 (Nat.le_of_ble_eq_true rfl) H (fun x1 M1 h1 D1 H => ?_)
  refine ev_iconst (pc1 := 11) (x := 0) (by decide) (TBof tbs_106 _ rfl) rfl ?_
  refine ev_iadd (pc1 := 12) (TBof tbs_106 _ rfl) rfl ?_
  refine ev_iaload (pc1 := 13) (n := 168) (TBof tbs_106 _ rfl) rfl ltc_74 sh_74 H.1 ?_
  replace H := H.2
  refine ev_istore_n (pc1 := 14) (L1 := [(3, .int (M1 74 ((x1 + 0).toNatClampNeg))), (2, .int 1), (0, .ref 73), (1, .int v1)]) (by rw [ml_106]; decide) rfl (TBof tbs_106 _ rfl) rfl ?_
  exact ev_le [2, 3, 1, 0] rfl rfl H
set_option maxRecDepth 100000 in
theorem R_X4_isReached_14 {d : Nat} {v1 v2 v3 : Int32} {M : Im} {h : Hm} {D : Dm} {Q : Int32 → Im → Hm → Dm → Prop} (H : ((v3 = (-5)) → ((v2 = 0 ∨ v2 = 1) ∧ Q v2 M h D)) ∧ (¬ (v3 = (-5)) → (((v2 = 0) → (CI d nX4_d [.int v3] M h D (fun x3 M3 h3 D3 => vp_in (x3 + 0) 168 ∧ (EvI d nX4_isReached 14 [(0, .ref 73), (1, .int v1), (2, .int 0), (3, .int (M3 74 ((x3 + 0).toNatClampNeg)))] [] M3 h3 D3 Q)))) ∧ (¬ (v2 = 0) → (CI d nX4_d [.int v3] M h D (fun x4 M4 h4 D4 => vp_in (x4 + 6) 168 ∧ (((¬ ((M4 74 ((x4 + 6).toNatClampNeg)) = 1)) → (CI d nX4_d [.int v3] M4 h4 D4 (fun x6 M6 h6 D6 => vp_in (x6 + 0) 168 ∧ (EvI d nX4_isReached 14 [(0, .ref 73), (1, .int v1), (2, .int 0), (3, .int (M6 74 ((x6 + 0).toNatClampNeg)))] [] M6 h6 D6 Q)))) ∧ (¬ (¬ ((M4 74 ((x4 + 6).toNatClampNeg)) = 1)) → (CI d nX4_d [.int v3] M4 h4 D4 (fun x7 M7 h7 D7 => vp_in (x7 + 0) 168 ∧ (EvI d nX4_isReached 14 [(0, .ref 73), (1, .int v1), (2, .int 1), (3, .int (M7 74 ((x7 + 0).toNatClampNeg)))] [] M7 h7 D7 Q))))))))))) : EvI d nX4_isReached 14 [(0, .ref 73), (1, .int v1), (2, .int v2), (3, .int v3)] [] M h D Q := by
  refine ev_iload_n (pc1 := 15) rfl (TBof tbs_106 _ rfl) rfl ?_
  refine ev_bipush (pc1 := 17) (x := (-5)) (by decide) (TBof tbs_106 _ rfl) rfl ?_
  refine ev_icmp (pc1 := 20) (t := 61) (TBof tbs_106 _ rfl) (by decide) rfl (fun c1 => ?_) (fun c1 => ?_)
  · replace H := H.1 c1
    refine ev_iload_n (pc1 := 62) rfl (TBof tbs_106 _ rfl) rfl ?_
    exact ev_ireturn (TBof tbs_106 _ rfl) (retI_z rt_106 H.1) ⟨_, rfl, H.2⟩
  · replace H := H.2 c1
    refine ev_iload_n (pc1 := 21) rfl (TBof tbs_106 _ rfl) rfl ?_
    refine ev_if (pc1 := 24) (t := 44) (TBof tbs_106 _ rfl) (by decide) rfl (fun c2 => ?_) (fun c2 => ?_)
    · replace H := H.1 c2
      refine ev_iconst (pc1 := 45) (x := 0) (by decide) (TBof tbs_106 _ rfl) rfl ?_
      refine ev_istore_n (pc1 := 46) (L1 := [(2, .int 0), (0, .ref 73), (1, .int v1), (3, .int v3)]) (by rw [ml_106]; decide) rfl (TBof tbs_106 _ rfl) rfl ?_
      refine ev_aload_n (pc1 := 47) rfl rfl (TBof tbs_106 _ rfl) rfl ?_
      refine ev_getP (pc1 := 50) (ci := 4) (k := 0) (a := 74) (TBof tbs_106 _ rfl) rfl (fldof mo_106 fl_4_7) ltc_73 sh_73 nk_4_0 fp_4_0 (by decide) pf_73_0 ?_
      refine ev_iload_n (pc1 := 51) rfl (TBof tbs_106 _ rfl) rfl ?_
      refine ev_callsI (pc1 := 54) (as := [.int v3]) (r := [.ref 74]) (TBof tbs_106 _ rfl) rfl (lnkof mo_106 ln_4_55) (Or.inl rfl) rfl na_86 (Nat.le_of_ble_eq_true rfl) H (fun x3 M3 h3 D3 H => ?_)
      refine ev_iconst (pc1 := 55) (x := 0) (by decide) (TBof tbs_106 _ rfl) rfl ?_
      refine ev_iadd (pc1 := 56) (TBof tbs_106 _ rfl) rfl ?_
      refine ev_iaload (pc1 := 57) (n := 168) (TBof tbs_106 _ rfl) rfl ltc_74 sh_74 H.1 ?_
      replace H := H.2
      refine ev_istore_n (pc1 := 58) (L1 := [(3, .int (M3 74 ((x3 + 0).toNatClampNeg))), (2, .int 0), (0, .ref 73), (1, .int v1)]) (by rw [ml_106]; decide) rfl (TBof tbs_106 _ rfl) rfl ?_
      refine ev_goto (pc1 := 14) (TBof tbs_106 _ rfl) (by decide) ?_
      exact ev_le [2, 3, 1, 0] rfl rfl H
    · replace H := H.2 c2
      refine ev_aload_n (pc1 := 25) rfl rfl (TBof tbs_106 _ rfl) rfl ?_
      refine ev_getP (pc1 := 28) (ci := 4) (k := 0) (a := 74) (TBof tbs_106 _ rfl) rfl (fldof mo_106 fl_4_7) ltc_73 sh_73 nk_4_0 fp_4_0 (by decide) pf_73_0 ?_
      refine ev_iload_n (pc1 := 29) rfl (TBof tbs_106 _ rfl) rfl ?_
      refine ev_callsI (pc1 := 32) (as := [.int v3]) (r := [.ref 74]) (TBof tbs_106 _ rfl) rfl (lnkof mo_106 ln_4_55) (Or.inl rfl) rfl na_86 (Nat.le_of_ble_eq_true rfl) H (fun x4 M4 h4 D4 H => ?_)
      refine ev_bipush (pc1 := 34) (x := 6) (by decide) (TBof tbs_106 _ rfl) rfl ?_
      refine ev_iadd (pc1 := 35) (TBof tbs_106 _ rfl) rfl ?_
      refine ev_iaload (pc1 := 36) (n := 168) (TBof tbs_106 _ rfl) rfl ltc_74 sh_74 H.1 ?_
      replace H := H.2
      refine ev_iconst (pc1 := 37) (x := 1) (by decide) (TBof tbs_106 _ rfl) rfl ?_
      refine ev_icmp (pc1 := 40) (t := 44) (TBof tbs_106 _ rfl) (by decide) rfl (fun c5 => ?_) (fun c5 => ?_)
      · replace H := H.1 c5
        refine ev_iconst (pc1 := 45) (x := 0) (by decide) (TBof tbs_106 _ rfl) rfl ?_
        refine ev_istore_n (pc1 := 46) (L1 := [(2, .int 0), (0, .ref 73), (1, .int v1), (3, .int v3)]) (by rw [ml_106]; decide) rfl (TBof tbs_106 _ rfl) rfl ?_
        refine ev_aload_n (pc1 := 47) rfl rfl (TBof tbs_106 _ rfl) rfl ?_
        refine ev_getP (pc1 := 50) (ci := 4) (k := 0) (a := 74) (TBof tbs_106 _ rfl) rfl (fldof mo_106 fl_4_7) ltc_73 sh_73 nk_4_0 fp_4_0 (by decide) pf_73_0 ?_
        refine ev_iload_n (pc1 := 51) rfl (TBof tbs_106 _ rfl) rfl ?_
        refine ev_callsI (pc1 := 54) (as := [.int v3]) (r := [.ref 74]) (TBof tbs_106 _ rfl) rfl (lnkof mo_106 ln_4_55) (Or.inl rfl) rfl na_86 (Nat.le_of_ble_eq_true rfl) H (fun x6 M6 h6 D6 H => ?_)
        refine ev_iconst (pc1 := 55) (x := 0) (by decide) (TBof tbs_106 _ rfl) rfl ?_
        refine ev_iadd (pc1 := 56) (TBof tbs_106 _ rfl) rfl ?_
        refine ev_iaload (pc1 := 57) (n := 168) (TBof tbs_106 _ rfl) rfl ltc_74 sh_74 H.1 ?_
        replace H := H.2
        refine ev_istore_n (pc1 := 58) (L1 := [(3, .int (M6 74 ((x6 + 0).toNatClampNeg))), (2, .int 0), (0, .ref 73), (1, .int v1)]) (by rw [ml_106]; decide) rfl (TBof tbs_106 _ rfl) rfl ?_
        refine ev_goto (pc1 := 14) (TBof tbs_106 _ rfl) (by decide) ?_
        exact ev_le [2, 3, 1, 0] rfl rfl H
      · replace H := H.2 c5
        refine ev_iconst (pc1 := 41) (x := 1) (by decide) (TBof tbs_106 _ rfl) rfl ?_
        refine ev_goto (pc1 := 45) (TBof tbs_106 _ rfl) (by decide) ?_
        refine ev_istore_n (pc1 := 46) (L1 := [(2, .int 1), (0, .ref 73), (1, .int v1), (3, .int v3)]) (by rw [ml_106]; decide) rfl (TBof tbs_106 _ rfl) rfl ?_
        refine ev_aload_n (pc1 := 47) rfl rfl (TBof tbs_106 _ rfl) rfl ?_
        refine ev_getP (pc1 := 50) (ci := 4) (k := 0) (a := 74) (TBof tbs_106 _ rfl) rfl (fldof mo_106 fl_4_7) ltc_73 sh_73 nk_4_0 fp_4_0 (by decide) pf_73_0 ?_
        refine ev_iload_n (pc1 := 51) rfl (TBof tbs_106 _ rfl) rfl ?_
        refine ev_callsI (pc1 := 54) (as := [.int v3]) (r := [.ref 74]) (TBof tbs_106 _ rfl) rfl (lnkof mo_106 ln_4_55) (Or.inl rfl) rfl na_86 (Nat.le_of_ble_eq_true rfl) H (fun x7 M7 h7 D7 H => ?_)
        refine ev_iconst (pc1 := 55) (x := 0) (by decide) (TBof tbs_106 _ rfl) rfl ?_
        refine ev_iadd (pc1 := 56) (TBof tbs_106 _ rfl) rfl ?_
        refine ev_iaload (pc1 := 57) (n := 168) (TBof tbs_106 _ rfl) rfl ltc_74 sh_74 H.1 ?_
        replace H := H.2
        refine ev_istore_n (pc1 := 58) (L1 := [(3, .int (M7 74 ((x7 + 0).toNatClampNeg))), (2, .int 1), (0, .ref 73), (1, .int v1)]) (by rw [ml_106]; decide) rfl (TBof tbs_106 _ rfl) rfl ?_
        refine ev_goto (pc1 := 14) (TBof tbs_106 _ rfl) (by decide) ?_
        exact ev_le [2, 3, 1, 0] rfl rfl H
set_option maxRecDepth 100000 in
theorem R_X4_canOpen_0 {d : Nat} {v1 : Int32} {M : Im} {h : Hm} {D : Dm} {Q : Int32 → Im → Hm → Dm → Prop} (H : CI d nX4_d [.int v1] M h D (fun x1 M1 h1 D1 => vp_in (x1 + 2) 168 ∧ (vp_in (x1 + 1) 168 ∧ (((¬ ((M1 74 ((x1 + 1).toNatClampNeg)) = 1)) → (vp_in (x1 + 1) 168 ∧ (((¬ ((M1 74 ((x1 + 1).toNatClampNeg)) = 2)) → (EvI d nX4_canOpen 82 [(0, .ref 73), (1, .int v1), (2, .int x1), (3, .int (M1 74 ((x1 + 2).toNatClampNeg)))] [.int 1] M1 h1 D1 Q)) ∧ (¬ (¬ ((M1 74 ((x1 + 1).toNatClampNeg)) = 2)) → (CI d nX4_d [.int (M1 74 ((x1 + 2).toNatClampNeg))] M1 h1 D1 (fun x4 M4 h4 D4 => vp_in (x4 + 6) 168 ∧ (((¬ ((M4 74 ((x4 + 6).toNatClampNeg)) = 1)) → (EvI d nX4_canOpen 82 [(0, .ref 73), (1, .int v1), (2, .int x1), (3, .int (M1 74 ((x1 + 2).toNatClampNeg)))] [.int 0] M4 h4 D4 Q)) ∧ (¬ (¬ ((M4 74 ((x4 + 6).toNatClampNeg)) = 1)) → (EvI d nX4_canOpen 82 [(0, .ref 73), (1, .int v1), (2, .int x1), (3, .int (M1 74 ((x1 + 2).toNatClampNeg)))] [.int 1] M4 h4 D4 Q))))))))) ∧ (¬ (¬ ((M1 74 ((x1 + 1).toNatClampNeg)) = 1)) → (CI d nX4_t [.int (M1 74 ((x1 + 2).toNatClampNeg))] M1 h1 D1 (fun x6 M6 h6 D6 => vp_in (x6 + 2) 168 ∧ (((¬ ((M6 74 ((x6 + 2).toNatClampNeg)) = 1)) → (EvI d nX4_canOpen 82 [(0, .ref 73), (1, .int v1), (2, .int x1), (3, .int (M1 74 ((x1 + 2).toNatClampNeg)))] [.int 0] M6 h6 D6 Q)) ∧ (¬ (¬ ((M6 74 ((x6 + 2).toNatClampNeg)) = 1)) → (EvI d nX4_canOpen 82 [(0, .ref 73), (1, .int v1), (2, .int x1), (3, .int (M1 74 ((x1 + 2).toNatClampNeg)))] [.int 1] M6 h6 D6 Q)))))))))) : EvI d nX4_canOpen 0 [(0, .ref 73), (1, .int v1)] [] M h D Q := by
  refine ev_iload_n (pc1 := 1) rfl (TBof tbs_107 _ rfl) rfl ?_
  refine ev_callsI (pc1 := 4) (as := [.int v1]) (r := []) (TBof tbs_107 _ rfl) rfl (lnkof mo_107 ln_4_55) (Or.inl rfl) rfl na_86 (Nat.le_of_ble_eq_true rfl) H (fun x1 M1 h1 D1 H => ?_)
  refine ev_istore_n (pc1 := 5) (L1 := [(2, .int x1), (0, .ref 73), (1, .int v1)]) (by rw [ml_107]; decide) rfl (TBof tbs_107 _ rfl) rfl ?_
  refine ev_aload_n (pc1 := 6) rfl rfl (TBof tbs_107 _ rfl) rfl ?_
  refine ev_getP (pc1 := 9) (ci := 4) (k := 0) (a := 74) (TBof tbs_107 _ rfl) rfl (fldof mo_107 fl_4_7) ltc_73 sh_73 nk_4_0 fp_4_0 (by decide) pf_73_0 ?_
  refine ev_iload_n (pc1 := 10) rfl (TBof tbs_107 _ rfl) rfl ?_
  refine ev_iconst (pc1 := 11) (x := 2) (by decide) (TBof tbs_107 _ rfl) rfl ?_
  refine ev_iadd (pc1 := 12) (TBof tbs_107 _ rfl) rfl ?_
  refine ev_iaload (pc1 := 13) (n := 168) (TBof tbs_107 _ rfl) rfl ltc_74 sh_74 H.1 ?_
  replace H := H.2
  refine ev_istore_n (pc1 := 14) (L1 := [(3, .int (M1 74 ((x1 + 2).toNatClampNeg))), (2, .int x1), (0, .ref 73), (1, .int v1)]) (by rw [ml_107]; decide) rfl (TBof tbs_107 _ rfl) rfl ?_
  refine ev_aload_n (pc1 := 15) rfl rfl (TBof tbs_107 _ rfl) rfl ?_
  refine ev_getP (pc1 := 18) (ci := 4) (k := 0) (a := 74) (TBof tbs_107 _ rfl) rfl (fldof mo_107 fl_4_7) ltc_73 sh_73 nk_4_0 fp_4_0 (by decide) pf_73_0 ?_
  refine ev_iload_n (pc1 := 19) rfl (TBof tbs_107 _ rfl) rfl ?_
  refine ev_iconst (pc1 := 20) (x := 1) (by decide) (TBof tbs_107 _ rfl) rfl ?_
  refine ev_iadd (pc1 := 21) (TBof tbs_107 _ rfl) rfl ?_
  refine ev_iaload (pc1 := 22) (n := 168) (TBof tbs_107 _ rfl) rfl ltc_74 sh_74 H.1 ?_
  replace H := H.2
  refine ev_iconst (pc1 := 23) (x := 1) (by decide) (TBof tbs_107 _ rfl) rfl ?_
  refine ev_icmp (pc1 := 26) (t := 49) (TBof tbs_107 _ rfl) (by decide) rfl (fun c2 => ?_) (fun c2 => ?_)
  · replace H := H.1 c2
    refine ev_aload_n (pc1 := 50) rfl rfl (TBof tbs_107 _ rfl) rfl ?_
    refine ev_getP (pc1 := 53) (ci := 4) (k := 0) (a := 74) (TBof tbs_107 _ rfl) rfl (fldof mo_107 fl_4_7) ltc_73 sh_73 nk_4_0 fp_4_0 (by decide) pf_73_0 ?_
    refine ev_iload_n (pc1 := 54) rfl (TBof tbs_107 _ rfl) rfl ?_
    refine ev_iconst (pc1 := 55) (x := 1) (by decide) (TBof tbs_107 _ rfl) rfl ?_
    refine ev_iadd (pc1 := 56) (TBof tbs_107 _ rfl) rfl ?_
    refine ev_iaload (pc1 := 57) (n := 168) (TBof tbs_107 _ rfl) rfl ltc_74 sh_74 H.1 ?_
    replace H := H.2
    refine ev_iconst (pc1 := 58) (x := 2) (by decide) (TBof tbs_107 _ rfl) rfl ?_
    refine ev_icmp (pc1 := 61) (t := 77) (TBof tbs_107 _ rfl) (by decide) rfl (fun c3 => ?_) (fun c3 => ?_)
    · replace H := H.1 c3
      refine ev_iconst (pc1 := 78) (x := 1) (by decide) (TBof tbs_107 _ rfl) rfl ?_
      refine ev_goto (pc1 := 82) (TBof tbs_107 _ rfl) (by decide) ?_
      exact ev_le [2, 3, 1, 0] rfl rfl H
    · replace H := H.2 c3
      refine ev_aload_n (pc1 := 62) rfl rfl (TBof tbs_107 _ rfl) rfl ?_
      refine ev_getP (pc1 := 65) (ci := 4) (k := 0) (a := 74) (TBof tbs_107 _ rfl) rfl (fldof mo_107 fl_4_7) ltc_73 sh_73 nk_4_0 fp_4_0 (by decide) pf_73_0 ?_
      refine ev_iload_n (pc1 := 66) rfl (TBof tbs_107 _ rfl) rfl ?_
      refine ev_callsI (pc1 := 69) (as := [.int (M1 74 ((x1 + 2).toNatClampNeg))]) (r := [.ref 74]) (TBof tbs_107 _ rfl) rfl (lnkof mo_107 ln_4_55) (Or.inl rfl) rfl na_86 (Nat.le_of_ble_eq_true rfl) H (fun x4 M4 h4 D4 H => ?_)
      refine ev_bipush (pc1 := 71) (x := 6) (by decide) (TBof tbs_107 _ rfl) rfl ?_
      refine ev_iadd (pc1 := 72) (TBof tbs_107 _ rfl) rfl ?_
      refine ev_iaload (pc1 := 73) (n := 168) (TBof tbs_107 _ rfl) rfl ltc_74 sh_74 H.1 ?_
      replace H := H.2
      refine ev_iconst (pc1 := 74) (x := 1) (by decide) (TBof tbs_107 _ rfl) rfl ?_
      refine ev_icmp (pc1 := 77) (t := 81) (TBof tbs_107 _ rfl) (by decide) rfl (fun c5 => ?_) (fun c5 => ?_)
      · replace H := H.1 c5
        refine ev_iconst (pc1 := 82) (x := 0) (by decide) (TBof tbs_107 _ rfl) rfl ?_
        exact ev_le [2, 3, 1, 0] rfl rfl H
      · replace H := H.2 c5
        refine ev_iconst (pc1 := 78) (x := 1) (by decide) (TBof tbs_107 _ rfl) rfl ?_
        refine ev_goto (pc1 := 82) (TBof tbs_107 _ rfl) (by decide) ?_
        exact ev_le [2, 3, 1, 0] rfl rfl H
  · replace H := H.2 c2
    refine ev_aload_n (pc1 := 27) rfl rfl (TBof tbs_107 _ rfl) rfl ?_
    refine ev_getP (pc1 := 30) (ci := 4) (k := 0) (a := 74) (TBof tbs_107 _ rfl) rfl (fldof mo_107 fl_4_7) ltc_73 sh_73 nk_4_0 fp_4_0 (by decide) pf_73_0 ?_
    refine ev_iload_n (pc1 := 31) rfl (TBof tbs_107 _ rfl) rfl ?_
    refine ev_callsI (pc1 := 34) (as := [.int (M1 74 ((x1 + 2).toNatClampNeg))]) (r := [.ref 74]) (TBof tbs_107 _ rfl) rfl (lnkof mo_107 ln_4_43) (Or.inl rfl) rfl na_85 (Nat.le_of_ble_eq_true rfl) H (fun x6 M6 h6 D6 H => ?_)
    refine ev_iconst (pc1 := 35) (x := 2) (by decide) (TBof tbs_107 _ rfl) rfl ?_
    refine ev_iadd (pc1 := 36) (TBof tbs_107 _ rfl) rfl ?_
    refine ev_iaload (pc1 := 37) (n := 168) (TBof tbs_107 _ rfl) rfl ltc_74 sh_74 H.1 ?_
    replace H := H.2
    refine ev_iconst (pc1 := 38) (x := 1) (by decide) (TBof tbs_107 _ rfl) rfl ?_
    refine ev_icmp (pc1 := 41) (t := 45) (TBof tbs_107 _ rfl) (by decide) rfl (fun c7 => ?_) (fun c7 => ?_)
    · replace H := H.1 c7
      refine ev_iconst (pc1 := 46) (x := 0) (by decide) (TBof tbs_107 _ rfl) rfl ?_
      refine ev_goto (pc1 := 82) (TBof tbs_107 _ rfl) (by decide) ?_
      exact ev_le [2, 3, 1, 0] rfl rfl H
    · replace H := H.2 c7
      refine ev_iconst (pc1 := 42) (x := 1) (by decide) (TBof tbs_107 _ rfl) rfl ?_
      refine ev_goto (pc1 := 82) (TBof tbs_107 _ rfl) (by decide) ?_
      exact ev_le [2, 3, 1, 0] rfl rfl H
set_option maxRecDepth 100000 in
theorem R_X4_canOpen_82 {d : Nat} {v1 v2 v3 s0 : Int32} {M : Im} {h : Hm} {D : Dm} {Q : Int32 → Im → Hm → Dm → Prop} (H : vp_in (v2 + 6) 168 ∧ (((¬ ((M 74 ((v2 + 6).toNatClampNeg)) = 0)) → (Q 0 M h D)) ∧ (¬ (¬ ((M 74 ((v2 + 6).toNatClampNeg)) = 0)) → (CI d nX4_isReached [.ref 73, .int v1] M h D (fun x2 M2 h2 D2 => ((x2 = 0) → (Q 0 M2 h2 D2)) ∧ (¬ (x2 = 0) → (((s0 = 0) → (Q 0 M2 h2 D2)) ∧ (¬ (s0 = 0) → (Q 1 M2 h2 D2))))))))) : EvI d nX4_canOpen 82 [(0, .ref 73), (1, .int v1), (2, .int v2), (3, .int v3)] [.int s0] M h D Q := by
  refine ev_istore (pc1 := 84) (L1 := [(4, .int s0), (0, .ref 73), (1, .int v1), (2, .int v2), (3, .int v3)]) (by rw [ml_107]; decide) rfl (TBof tbs_107 _ rfl) rfl ?_
  refine ev_aload_n (pc1 := 85) rfl rfl (TBof tbs_107 _ rfl) rfl ?_
  refine ev_getP (pc1 := 88) (ci := 4) (k := 0) (a := 74) (TBof tbs_107 _ rfl) rfl (fldof mo_107 fl_4_7) ltc_73 sh_73 nk_4_0 fp_4_0 (by decide) pf_73_0 ?_
  refine ev_iload_n (pc1 := 89) rfl (TBof tbs_107 _ rfl) rfl ?_
  refine ev_bipush (pc1 := 91) (x := 6) (by decide) (TBof tbs_107 _ rfl) rfl ?_
  refine ev_iadd (pc1 := 92) (TBof tbs_107 _ rfl) rfl ?_
  refine ev_iaload (pc1 := 93) (n := 168) (TBof tbs_107 _ rfl) rfl ltc_74 sh_74 H.1 ?_
  replace H := H.2
  refine ev_if (pc1 := 96) (t := 113) (TBof tbs_107 _ rfl) (by decide) rfl (fun c1 => ?_) (fun c1 => ?_)
  · replace H := H.1 c1
    refine ev_iconst (pc1 := 114) (x := 0) (by decide) (TBof tbs_107 _ rfl) rfl ?_
    exact ev_ireturn (TBof tbs_107 _ rfl) (retI_z rt_107 (Or.inl rfl)) ⟨_, rfl, H⟩
  · replace H := H.2 c1
    refine ev_aload_n (pc1 := 97) rfl rfl (TBof tbs_107 _ rfl) rfl ?_
    refine ev_iload_n (pc1 := 98) rfl (TBof tbs_107 _ rfl) rfl ?_
    refine ev_callvI (pc1 := 101) (as := [.int v1]) (r := []) (TBof tbs_107 _ rfl) rfl (lnkof mo_107 ln_4_108) rfl na_106 ltc_73 (sh_73.trans (by rw [mo_106])) (Nat.le_of_ble_eq_true rfl) H (fun x2 M2 h2 D2 H => ?_)
    refine ev_if (pc1 := 104) (t := 113) (TBof tbs_107 _ rfl) (by decide) rfl (fun c3 => ?_) (fun c3 => ?_)
    · replace H := H.1 c3
      refine ev_iconst (pc1 := 114) (x := 0) (by decide) (TBof tbs_107 _ rfl) rfl ?_
      exact ev_ireturn (TBof tbs_107 _ rfl) (retI_z rt_107 (Or.inl rfl)) ⟨_, rfl, H⟩
    · replace H := H.2 c3
      refine ev_iload (pc1 := 106) rfl (TBof tbs_107 _ rfl) rfl ?_
      refine ev_if (pc1 := 109) (t := 113) (TBof tbs_107 _ rfl) (by decide) rfl (fun c4 => ?_) (fun c4 => ?_)
      · replace H := H.1 c4
        refine ev_iconst (pc1 := 114) (x := 0) (by decide) (TBof tbs_107 _ rfl) rfl ?_
        exact ev_ireturn (TBof tbs_107 _ rfl) (retI_z rt_107 (Or.inl rfl)) ⟨_, rfl, H⟩
      · replace H := H.2 c4
        refine ev_iconst (pc1 := 110) (x := 1) (by decide) (TBof tbs_107 _ rfl) rfl ?_
        refine ev_goto (pc1 := 114) (TBof tbs_107 _ rfl) (by decide) ?_
        exact ev_ireturn (TBof tbs_107 _ rfl) (retI_z rt_107 (Or.inr rfl)) ⟨_, rfl, H⟩
set_option maxRecDepth 100000 in
theorem R_X4_canLift_0 {d : Nat} {v1 : Int32} {M : Im} {h : Hm} {D : Dm} {Q : Int32 → Im → Hm → Dm → Prop} (H : CI d nX4_d [.int v1] M h D (fun x1 M1 h1 D1 => vp_in (x1 + 6) 168 ∧ (((¬ ((M1 74 ((x1 + 6).toNatClampNeg)) = 1)) → (Q 0 M1 h1 D1)) ∧ (¬ (¬ ((M1 74 ((x1 + 6).toNatClampNeg)) = 1)) → (CI d nX4_isReached [.ref 73, .int v1] M1 h1 D1 (fun x3 M3 h3 D3 => ((x3 = 0) → (Q 0 M3 h3 D3)) ∧ (¬ (x3 = 0) → (vp_in (x1 + 5) 168 ∧ (vp_in (x1 + 4) 168 ∧ ((((M3 74 ((x1 + 4).toNatClampNeg)) ≤ (M3 74 ((x1 + 5).toNatClampNeg))) → (Q 0 M3 h3 D3)) ∧ (¬ ((M3 74 ((x1 + 4).toNatClampNeg)) ≤ (M3 74 ((x1 + 5).toNatClampNeg))) → (CI d nX4_t [.int 10] M3 h3 D3 (fun x6 M6 h6 D6 => vp_in (x6 + 2) 168 ∧ (((¬ ((M6 74 ((x6 + 2).toNatClampNeg)) = 1)) → (Q 0 M6 h6 D6)) ∧ (¬ (¬ ((M6 74 ((x6 + 2).toNatClampNeg)) = 1)) → (Q 1 M6 h6 D6)))))))))))))))) : EvI d nX4_canLift 0 [(0, .ref 73), (1, .int v1)] [] M h D Q := by
  refine ev_iload_n (pc1 := 1) rfl (TBof tbs_108 _ rfl) rfl ?_
  refine ev_callsI (pc1 := 4) (as := [.int v1]) (r := []) (TBof tbs_108 _ rfl) rfl (lnkof mo_108 ln_4_55) (Or.inl rfl) rfl na_86 (Nat.le_of_ble_eq_true rfl) H (fun x1 M1 h1 D1 H => ?_)
  refine ev_istore_n (pc1 := 5) (L1 := [(2, .int x1), (0, .ref 73), (1, .int v1)]) (by rw [ml_108]; decide) rfl (TBof tbs_108 _ rfl) rfl ?_
  refine ev_aload_n (pc1 := 6) rfl rfl (TBof tbs_108 _ rfl) rfl ?_
  refine ev_getP (pc1 := 9) (ci := 4) (k := 0) (a := 74) (TBof tbs_108 _ rfl) rfl (fldof mo_108 fl_4_7) ltc_73 sh_73 nk_4_0 fp_4_0 (by decide) pf_73_0 ?_
  refine ev_iload_n (pc1 := 10) rfl (TBof tbs_108 _ rfl) rfl ?_
  refine ev_bipush (pc1 := 12) (x := 6) (by decide) (TBof tbs_108 _ rfl) rfl ?_
  refine ev_iadd (pc1 := 13) (TBof tbs_108 _ rfl) rfl ?_
  refine ev_iaload (pc1 := 14) (n := 168) (TBof tbs_108 _ rfl) rfl ltc_74 sh_74 H.1 ?_
  replace H := H.2
  refine ev_iconst (pc1 := 15) (x := 1) (by decide) (TBof tbs_108 _ rfl) rfl ?_
  refine ev_icmp (pc1 := 18) (t := 65) (TBof tbs_108 _ rfl) (by decide) rfl (fun c2 => ?_) (fun c2 => ?_)
  · replace H := H.1 c2
    refine ev_iconst (pc1 := 66) (x := 0) (by decide) (TBof tbs_108 _ rfl) rfl ?_
    exact ev_ireturn (TBof tbs_108 _ rfl) (retI_z rt_108 (Or.inl rfl)) ⟨_, rfl, H⟩
  · replace H := H.2 c2
    refine ev_aload_n (pc1 := 19) rfl rfl (TBof tbs_108 _ rfl) rfl ?_
    refine ev_iload_n (pc1 := 20) rfl (TBof tbs_108 _ rfl) rfl ?_
    refine ev_callvI (pc1 := 23) (as := [.int v1]) (r := []) (TBof tbs_108 _ rfl) rfl (lnkof mo_108 ln_4_108) rfl na_106 ltc_73 (sh_73.trans (by rw [mo_106])) (Nat.le_of_ble_eq_true rfl) H (fun x3 M3 h3 D3 H => ?_)
    refine ev_if (pc1 := 26) (t := 65) (TBof tbs_108 _ rfl) (by decide) rfl (fun c4 => ?_) (fun c4 => ?_)
    · replace H := H.1 c4
      refine ev_iconst (pc1 := 66) (x := 0) (by decide) (TBof tbs_108 _ rfl) rfl ?_
      exact ev_ireturn (TBof tbs_108 _ rfl) (retI_z rt_108 (Or.inl rfl)) ⟨_, rfl, H⟩
    · replace H := H.2 c4
      refine ev_aload_n (pc1 := 27) rfl rfl (TBof tbs_108 _ rfl) rfl ?_
      refine ev_getP (pc1 := 30) (ci := 4) (k := 0) (a := 74) (TBof tbs_108 _ rfl) rfl (fldof mo_108 fl_4_7) ltc_73 sh_73 nk_4_0 fp_4_0 (by decide) pf_73_0 ?_
      refine ev_iload_n (pc1 := 31) rfl (TBof tbs_108 _ rfl) rfl ?_
      refine ev_iconst (pc1 := 32) (x := 5) (by decide) (TBof tbs_108 _ rfl) rfl ?_
      refine ev_iadd (pc1 := 33) (TBof tbs_108 _ rfl) rfl ?_
      refine ev_iaload (pc1 := 34) (n := 168) (TBof tbs_108 _ rfl) rfl ltc_74 sh_74 H.1 ?_
      replace H := H.2
      refine ev_aload_n (pc1 := 35) rfl rfl (TBof tbs_108 _ rfl) rfl ?_
      refine ev_getP (pc1 := 38) (ci := 4) (k := 0) (a := 74) (TBof tbs_108 _ rfl) rfl (fldof mo_108 fl_4_7) ltc_73 sh_73 nk_4_0 fp_4_0 (by decide) pf_73_0 ?_
      refine ev_iload_n (pc1 := 39) rfl (TBof tbs_108 _ rfl) rfl ?_
      refine ev_iconst (pc1 := 40) (x := 4) (by decide) (TBof tbs_108 _ rfl) rfl ?_
      refine ev_iadd (pc1 := 41) (TBof tbs_108 _ rfl) rfl ?_
      refine ev_iaload (pc1 := 42) (n := 168) (TBof tbs_108 _ rfl) rfl ltc_74 sh_74 H.1 ?_
      replace H := H.2
      refine ev_icmp (pc1 := 45) (t := 65) (TBof tbs_108 _ rfl) (by decide) rfl (fun c5 => ?_) (fun c5 => ?_)
      · replace H := H.1 c5
        refine ev_iconst (pc1 := 66) (x := 0) (by decide) (TBof tbs_108 _ rfl) rfl ?_
        exact ev_ireturn (TBof tbs_108 _ rfl) (retI_z rt_108 (Or.inl rfl)) ⟨_, rfl, H⟩
      · replace H := H.2 c5
        refine ev_aload_n (pc1 := 46) rfl rfl (TBof tbs_108 _ rfl) rfl ?_
        refine ev_getP (pc1 := 49) (ci := 4) (k := 0) (a := 74) (TBof tbs_108 _ rfl) rfl (fldof mo_108 fl_4_7) ltc_73 sh_73 nk_4_0 fp_4_0 (by decide) pf_73_0 ?_
        refine ev_bipush (pc1 := 51) (x := 10) (by decide) (TBof tbs_108 _ rfl) rfl ?_
        refine ev_callsI (pc1 := 54) (as := [.int 10]) (r := [.ref 74]) (TBof tbs_108 _ rfl) rfl (lnkof mo_108 ln_4_43) (Or.inl rfl) rfl na_85 (Nat.le_of_ble_eq_true rfl) H (fun x6 M6 h6 D6 H => ?_)
        refine ev_iconst (pc1 := 55) (x := 2) (by decide) (TBof tbs_108 _ rfl) rfl ?_
        refine ev_iadd (pc1 := 56) (TBof tbs_108 _ rfl) rfl ?_
        refine ev_iaload (pc1 := 57) (n := 168) (TBof tbs_108 _ rfl) rfl ltc_74 sh_74 H.1 ?_
        replace H := H.2
        refine ev_iconst (pc1 := 58) (x := 1) (by decide) (TBof tbs_108 _ rfl) rfl ?_
        refine ev_icmp (pc1 := 61) (t := 65) (TBof tbs_108 _ rfl) (by decide) rfl (fun c7 => ?_) (fun c7 => ?_)
        · replace H := H.1 c7
          refine ev_iconst (pc1 := 66) (x := 0) (by decide) (TBof tbs_108 _ rfl) rfl ?_
          exact ev_ireturn (TBof tbs_108 _ rfl) (retI_z rt_108 (Or.inl rfl)) ⟨_, rfl, H⟩
        · replace H := H.2 c7
          refine ev_iconst (pc1 := 62) (x := 1) (by decide) (TBof tbs_108 _ rfl) rfl ?_
          refine ev_goto (pc1 := 66) (TBof tbs_108 _ rfl) (by decide) ?_
          exact ev_ireturn (TBof tbs_108 _ rfl) (retI_z rt_108 (Or.inr rfl)) ⟨_, rfl, H⟩
set_option maxRecDepth 100000 in
theorem R_X4_canTake_0 {d : Nat} {v1 : Int32} {M : Im} {h : Hm} {D : Dm} {Q : Int32 → Im → Hm → Dm → Prop} (H : CI d nX4_t [.int v1] M h D (fun x1 M1 h1 D1 => vp_in (x1 + 2) 168 ∧ ((((M1 74 ((x1 + 2).toNatClampNeg)) = 1) → (vp_in (x1 + 2) 168 ∧ (((¬ ((M1 74 ((x1 + 2).toNatClampNeg)) = 0)) → (Q 0 M1 h1 D1)) ∧ (¬ (¬ ((M1 74 ((x1 + 2).toNatClampNeg)) = 0)) → (Q 1 M1 h1 D1))))) ∧ (¬ ((M1 74 ((x1 + 2).toNatClampNeg)) = 1) → (vp_in (x1 + 0) 168 ∧ (((¬ ((M1 74 ((x1 + 0).toNatClampNeg)) = (-5))) → (vp_in (x1 + 0) 168 ∧ (CI d nX4_d [.int (M1 74 ((x1 + 0).toNatClampNeg))] M1 h1 D1 (fun x5 M5 h5 D5 => vp_in (x5 + 6) 168 ∧ (((¬ ((M5 74 ((x5 + 6).toNatClampNeg)) = 1)) → (Q 0 M5 h5 D5)) ∧ (¬ (¬ ((M5 74 ((x5 + 6).toNatClampNeg)) = 1)) → (CI d nX4_isReached [.ref 73, .int (M1 74 ((x1 + 0).toNatClampNeg))] M5 h5 D5 (fun x7 M7 h7 D7 => ((x7 = 0) → (Q 0 M7 h7 D7)) ∧ (¬ (x7 = 0) → (CI d nX4_d [.int (M1 74 ((x1 + 0).toNatClampNeg))] M7 h7 D7 (fun x9 M9 h9 D9 => vp_in (x9 + 5) 168 ∧ (vp_in (x1 + 1) 168 ∧ ((((M9 74 ((x9 + 5).toNatClampNeg)) < (M9 74 ((x1 + 1).toNatClampNeg))) → (Q 0 M9 h9 D9)) ∧ (¬ ((M9 74 ((x9 + 5).toNatClampNeg)) < (M9 74 ((x1 + 1).toNatClampNeg))) → (Q 1 M9 h9 D9))))))))))))))) ∧ (¬ (¬ ((M1 74 ((x1 + 0).toNatClampNeg)) = (-5))) → (vp_in (x1 + 2) 168 ∧ (((¬ ((M1 74 ((x1 + 2).toNatClampNeg)) = 0)) → (Q 0 M1 h1 D1)) ∧ (¬ (¬ ((M1 74 ((x1 + 2).toNatClampNeg)) = 0)) → (Q 1 M1 h1 D1))))))))))) : EvI d nX4_canTake 0 [(0, .ref 73), (1, .int v1)] [] M h D Q := by
  refine ev_iload_n (pc1 := 1) rfl (TBof tbs_109 _ rfl) rfl ?_
  refine ev_callsI (pc1 := 4) (as := [.int v1]) (r := []) (TBof tbs_109 _ rfl) rfl (lnkof mo_109 ln_4_43) (Or.inl rfl) rfl na_85 (Nat.le_of_ble_eq_true rfl) H (fun x1 M1 h1 D1 H => ?_)
  refine ev_istore_n (pc1 := 5) (L1 := [(2, .int x1), (0, .ref 73), (1, .int v1)]) (by rw [ml_109]; decide) rfl (TBof tbs_109 _ rfl) rfl ?_
  refine ev_aload_n (pc1 := 6) rfl rfl (TBof tbs_109 _ rfl) rfl ?_
  refine ev_getP (pc1 := 9) (ci := 4) (k := 0) (a := 74) (TBof tbs_109 _ rfl) rfl (fldof mo_109 fl_4_7) ltc_73 sh_73 nk_4_0 fp_4_0 (by decide) pf_73_0 ?_
  refine ev_iload_n (pc1 := 10) rfl (TBof tbs_109 _ rfl) rfl ?_
  refine ev_iconst (pc1 := 11) (x := 2) (by decide) (TBof tbs_109 _ rfl) rfl ?_
  refine ev_iadd (pc1 := 12) (TBof tbs_109 _ rfl) rfl ?_
  refine ev_iaload (pc1 := 13) (n := 168) (TBof tbs_109 _ rfl) rfl ltc_74 sh_74 H.1 ?_
  replace H := H.2
  refine ev_iconst (pc1 := 14) (x := 1) (by decide) (TBof tbs_109 _ rfl) rfl ?_
  refine ev_icmp (pc1 := 17) (t := 30) (TBof tbs_109 _ rfl) (by decide) rfl (fun c2 => ?_) (fun c2 => ?_)
  · replace H := H.1 c2
    refine ev_aload_n (pc1 := 31) rfl rfl (TBof tbs_109 _ rfl) rfl ?_
    refine ev_getP (pc1 := 34) (ci := 4) (k := 0) (a := 74) (TBof tbs_109 _ rfl) rfl (fldof mo_109 fl_4_7) ltc_73 sh_73 nk_4_0 fp_4_0 (by decide) pf_73_0 ?_
    refine ev_iload_n (pc1 := 35) rfl (TBof tbs_109 _ rfl) rfl ?_
    refine ev_iconst (pc1 := 36) (x := 2) (by decide) (TBof tbs_109 _ rfl) rfl ?_
    refine ev_iadd (pc1 := 37) (TBof tbs_109 _ rfl) rfl ?_
    refine ev_iaload (pc1 := 38) (n := 168) (TBof tbs_109 _ rfl) rfl ltc_74 sh_74 H.1 ?_
    replace H := H.2
    refine ev_if (pc1 := 41) (t := 45) (TBof tbs_109 _ rfl) (by decide) rfl (fun c3 => ?_) (fun c3 => ?_)
    · replace H := H.1 c3
      refine ev_iconst (pc1 := 46) (x := 0) (by decide) (TBof tbs_109 _ rfl) rfl ?_
      exact ev_ireturn (TBof tbs_109 _ rfl) (retI_z rt_109 (Or.inl rfl)) ⟨_, rfl, H⟩
    · replace H := H.2 c3
      refine ev_iconst (pc1 := 42) (x := 1) (by decide) (TBof tbs_109 _ rfl) rfl ?_
      refine ev_goto (pc1 := 46) (TBof tbs_109 _ rfl) (by decide) ?_
      exact ev_ireturn (TBof tbs_109 _ rfl) (retI_z rt_109 (Or.inr rfl)) ⟨_, rfl, H⟩
  · replace H := H.2 c2
    refine ev_aload_n (pc1 := 18) rfl rfl (TBof tbs_109 _ rfl) rfl ?_
    refine ev_getP (pc1 := 21) (ci := 4) (k := 0) (a := 74) (TBof tbs_109 _ rfl) rfl (fldof mo_109 fl_4_7) ltc_73 sh_73 nk_4_0 fp_4_0 (by decide) pf_73_0 ?_
    refine ev_iload_n (pc1 := 22) rfl (TBof tbs_109 _ rfl) rfl ?_
    refine ev_iconst (pc1 := 23) (x := 0) (by decide) (TBof tbs_109 _ rfl) rfl ?_
    refine ev_iadd (pc1 := 24) (TBof tbs_109 _ rfl) rfl ?_
    refine ev_iaload (pc1 := 25) (n := 168) (TBof tbs_109 _ rfl) rfl ltc_74 sh_74 H.1 ?_
    replace H := H.2
    refine ev_bipush (pc1 := 27) (x := (-5)) (by decide) (TBof tbs_109 _ rfl) rfl ?_
    refine ev_icmp (pc1 := 30) (t := 47) (TBof tbs_109 _ rfl) (by decide) rfl (fun c4 => ?_) (fun c4 => ?_)
    · replace H := H.1 c4
      refine ev_aload_n (pc1 := 48) rfl rfl (TBof tbs_109 _ rfl) rfl ?_
      refine ev_getP (pc1 := 51) (ci := 4) (k := 0) (a := 74) (TBof tbs_109 _ rfl) rfl (fldof mo_109 fl_4_7) ltc_73 sh_73 nk_4_0 fp_4_0 (by decide) pf_73_0 ?_
      refine ev_iload_n (pc1 := 52) rfl (TBof tbs_109 _ rfl) rfl ?_
      refine ev_iconst (pc1 := 53) (x := 0) (by decide) (TBof tbs_109 _ rfl) rfl ?_
      refine ev_iadd (pc1 := 54) (TBof tbs_109 _ rfl) rfl ?_
      refine ev_iaload (pc1 := 55) (n := 168) (TBof tbs_109 _ rfl) rfl ltc_74 sh_74 H.1 ?_
      replace H := H.2
      refine ev_istore_n (pc1 := 56) (L1 := [(3, .int (M1 74 ((x1 + 0).toNatClampNeg))), (2, .int x1), (0, .ref 73), (1, .int v1)]) (by rw [ml_109]; decide) rfl (TBof tbs_109 _ rfl) rfl ?_
      refine ev_aload_n (pc1 := 57) rfl rfl (TBof tbs_109 _ rfl) rfl ?_
      refine ev_getP (pc1 := 60) (ci := 4) (k := 0) (a := 74) (TBof tbs_109 _ rfl) rfl (fldof mo_109 fl_4_7) ltc_73 sh_73 nk_4_0 fp_4_0 (by decide) pf_73_0 ?_
      refine ev_iload_n (pc1 := 61) rfl (TBof tbs_109 _ rfl) rfl ?_
      refine ev_callsI (pc1 := 64) (as := [.int (M1 74 ((x1 + 0).toNatClampNeg))]) (r := [.ref 74]) (TBof tbs_109 _ rfl) rfl (lnkof mo_109 ln_4_55) (Or.inl rfl) rfl na_86 (Nat.le_of_ble_eq_true rfl) H (fun x5 M5 h5 D5 H => ?_)
      refine ev_bipush (pc1 := 66) (x := 6) (by decide) (TBof tbs_109 _ rfl) rfl ?_
      refine ev_iadd (pc1 := 67) (TBof tbs_109 _ rfl) rfl ?_
      refine ev_iaload (pc1 := 68) (n := 168) (TBof tbs_109 _ rfl) rfl ltc_74 sh_74 H.1 ?_
      replace H := H.2
      refine ev_iconst (pc1 := 69) (x := 1) (by decide) (TBof tbs_109 _ rfl) rfl ?_
      refine ev_icmp (pc1 := 72) (t := 106) (TBof tbs_109 _ rfl) (by decide) rfl (fun c6 => ?_) (fun c6 => ?_)
      · replace H := H.1 c6
        refine ev_iconst (pc1 := 107) (x := 0) (by decide) (TBof tbs_109 _ rfl) rfl ?_
        exact ev_ireturn (TBof tbs_109 _ rfl) (retI_z rt_109 (Or.inl rfl)) ⟨_, rfl, H⟩
      · replace H := H.2 c6
        refine ev_aload_n (pc1 := 73) rfl rfl (TBof tbs_109 _ rfl) rfl ?_
        refine ev_iload_n (pc1 := 74) rfl (TBof tbs_109 _ rfl) rfl ?_
        refine ev_callvI (pc1 := 77) (as := [.int (M1 74 ((x1 + 0).toNatClampNeg))]) (r := []) (TBof tbs_109 _ rfl) rfl (lnkof mo_109 ln_4_108) rfl na_106 ltc_73 (sh_73.trans (by rw [mo_106])) (Nat.le_of_ble_eq_true rfl) H (fun x7 M7 h7 D7 H => ?_)
        refine ev_if (pc1 := 80) (t := 106) (TBof tbs_109 _ rfl) (by decide) rfl (fun c8 => ?_) (fun c8 => ?_)
        · replace H := H.1 c8
          refine ev_iconst (pc1 := 107) (x := 0) (by decide) (TBof tbs_109 _ rfl) rfl ?_
          exact ev_ireturn (TBof tbs_109 _ rfl) (retI_z rt_109 (Or.inl rfl)) ⟨_, rfl, H⟩
        · replace H := H.2 c8
          refine ev_aload_n (pc1 := 81) rfl rfl (TBof tbs_109 _ rfl) rfl ?_
          refine ev_getP (pc1 := 84) (ci := 4) (k := 0) (a := 74) (TBof tbs_109 _ rfl) rfl (fldof mo_109 fl_4_7) ltc_73 sh_73 nk_4_0 fp_4_0 (by decide) pf_73_0 ?_
          refine ev_iload_n (pc1 := 85) rfl (TBof tbs_109 _ rfl) rfl ?_
          refine ev_callsI (pc1 := 88) (as := [.int (M1 74 ((x1 + 0).toNatClampNeg))]) (r := [.ref 74]) (TBof tbs_109 _ rfl) rfl (lnkof mo_109 ln_4_55) (Or.inl rfl) rfl na_86 (Nat.le_of_ble_eq_true rfl) H (fun x9 M9 h9 D9 H => ?_)
          refine ev_iconst (pc1 := 89) (x := 5) (by decide) (TBof tbs_109 _ rfl) rfl ?_
          refine ev_iadd (pc1 := 90) (TBof tbs_109 _ rfl) rfl ?_
          refine ev_iaload (pc1 := 91) (n := 168) (TBof tbs_109 _ rfl) rfl ltc_74 sh_74 H.1 ?_
          replace H := H.2
          refine ev_aload_n (pc1 := 92) rfl rfl (TBof tbs_109 _ rfl) rfl ?_
          refine ev_getP (pc1 := 95) (ci := 4) (k := 0) (a := 74) (TBof tbs_109 _ rfl) rfl (fldof mo_109 fl_4_7) ltc_73 sh_73 nk_4_0 fp_4_0 (by decide) pf_73_0 ?_
          refine ev_iload_n (pc1 := 96) rfl (TBof tbs_109 _ rfl) rfl ?_
          refine ev_iconst (pc1 := 97) (x := 1) (by decide) (TBof tbs_109 _ rfl) rfl ?_
          refine ev_iadd (pc1 := 98) (TBof tbs_109 _ rfl) rfl ?_
          refine ev_iaload (pc1 := 99) (n := 168) (TBof tbs_109 _ rfl) rfl ltc_74 sh_74 H.1 ?_
          replace H := H.2
          refine ev_icmp (pc1 := 102) (t := 106) (TBof tbs_109 _ rfl) (by decide) rfl (fun c10 => ?_) (fun c10 => ?_)
          · replace H := H.1 c10
            refine ev_iconst (pc1 := 107) (x := 0) (by decide) (TBof tbs_109 _ rfl) rfl ?_
            exact ev_ireturn (TBof tbs_109 _ rfl) (retI_z rt_109 (Or.inl rfl)) ⟨_, rfl, H⟩
          · replace H := H.2 c10
            refine ev_iconst (pc1 := 103) (x := 1) (by decide) (TBof tbs_109 _ rfl) rfl ?_
            refine ev_goto (pc1 := 107) (TBof tbs_109 _ rfl) (by decide) ?_
            exact ev_ireturn (TBof tbs_109 _ rfl) (retI_z rt_109 (Or.inr rfl)) ⟨_, rfl, H⟩
    · replace H := H.2 c4
      refine ev_aload_n (pc1 := 31) rfl rfl (TBof tbs_109 _ rfl) rfl ?_
      refine ev_getP (pc1 := 34) (ci := 4) (k := 0) (a := 74) (TBof tbs_109 _ rfl) rfl (fldof mo_109 fl_4_7) ltc_73 sh_73 nk_4_0 fp_4_0 (by decide) pf_73_0 ?_
      refine ev_iload_n (pc1 := 35) rfl (TBof tbs_109 _ rfl) rfl ?_
      refine ev_iconst (pc1 := 36) (x := 2) (by decide) (TBof tbs_109 _ rfl) rfl ?_
      refine ev_iadd (pc1 := 37) (TBof tbs_109 _ rfl) rfl ?_
      refine ev_iaload (pc1 := 38) (n := 168) (TBof tbs_109 _ rfl) rfl ltc_74 sh_74 H.1 ?_
      replace H := H.2
      refine ev_if (pc1 := 41) (t := 45) (TBof tbs_109 _ rfl) (by decide) rfl (fun c11 => ?_) (fun c11 => ?_)
      · replace H := H.1 c11
        refine ev_iconst (pc1 := 46) (x := 0) (by decide) (TBof tbs_109 _ rfl) rfl ?_
        exact ev_ireturn (TBof tbs_109 _ rfl) (retI_z rt_109 (Or.inl rfl)) ⟨_, rfl, H⟩
      · replace H := H.2 c11
        refine ev_iconst (pc1 := 42) (x := 1) (by decide) (TBof tbs_109 _ rfl) rfl ?_
        refine ev_goto (pc1 := 46) (TBof tbs_109 _ rfl) (by decide) ?_
        exact ev_ireturn (TBof tbs_109 _ rfl) (retI_z rt_109 (Or.inr rfl)) ⟨_, rfl, H⟩
set_option maxRecDepth 100000 in
theorem R_X4_step_0 {d : Nat} {v1 : UInt64} {M : Im} {h : Hm} {D : Dm} {Q : Im → Hm → Dm → Prop} (H : vp_in 2 168 ∧ (vp_in 2 168 ∧ (vp_in 0 6 ∧ (vf_n64 (FP.dadd (D 77 ((0 : Int32).toNatClampNeg)) v1) ∧ (vp_in 0 6 ∧ (Q (up2 M 74 ((2 : Int32).toNatClampNeg) ((M 74 ((2 : Int32).toNatClampNeg)) + 1)) h (up2 D 77 ((0 : Int32).toNatClampNeg) (FP.dadd (D 77 ((0 : Int32).toNatClampNeg)) v1)))))))) : EvV d nX4_step 0 [(0, .ref 73), (1, .double v1)] [] M h D Q := by
  refine ev_aload_n (pc1 := 1) rfl rfl (TBof tbs_110 _ rfl) rfl ?_
  refine ev_getP (pc1 := 4) (ci := 4) (k := 0) (a := 74) (TBof tbs_110 _ rfl) rfl (fldof mo_110 fl_4_7) ltc_73 sh_73 nk_4_0 fp_4_0 (by decide) pf_73_0 ?_
  refine ev_iconst (pc1 := 5) (x := 2) (by decide) (TBof tbs_110 _ rfl) rfl ?_
  refine ev_dup2 (pc1 := 6) rfl rfl (TBof tbs_110 _ rfl) rfl ?_
  refine ev_iaload (pc1 := 7) (n := 168) (TBof tbs_110 _ rfl) rfl ltc_74 sh_74 H.1 ?_
  replace H := H.2
  refine ev_iconst (pc1 := 8) (x := 1) (by decide) (TBof tbs_110 _ rfl) rfl ?_
  refine ev_iadd (pc1 := 9) (TBof tbs_110 _ rfl) rfl ?_
  refine ev_iastore (pc1 := 10) (n := 168) (TBof tbs_110 _ rfl) rfl ltc_74 sh_74 H.1 ?_
  replace H := H.2
  refine ev_aload_n (pc1 := 11) rfl rfl (TBof tbs_110 _ rfl) rfl ?_
  refine ev_getP (pc1 := 14) (ci := 4) (k := 3) (a := 77) (TBof tbs_110 _ rfl) rfl (fldof mo_110 fl_4_19) ltc_73 sh_73 nk_4_3 fp_4_3 (by decide) pf_73_3 ?_
  refine ev_iconst (pc1 := 15) (x := 0) (by decide) (TBof tbs_110 _ rfl) rfl ?_
  refine ev_aload_n (pc1 := 16) rfl rfl (TBof tbs_110 _ rfl) rfl ?_
  refine ev_getP (pc1 := 19) (ci := 4) (k := 3) (a := 77) (TBof tbs_110 _ rfl) rfl (fldof mo_110 fl_4_19) ltc_73 sh_73 nk_4_3 fp_4_3 (by decide) pf_73_3 ?_
  refine ev_iconst (pc1 := 20) (x := 0) (by decide) (TBof tbs_110 _ rfl) rfl ?_
  refine ev_daload (pc1 := 21) (n := 6) (TBof tbs_110 _ rfl) rfl ltc_77 sh_77 H.1 ?_
  replace H := H.2
  refine ev_dload_n (pc1 := 22) rfl (TBof tbs_110 _ rfl) rfl ?_
  refine ev_dadd (pc1 := 23) H.1 (TBof tbs_110 _ rfl) rfl ?_
  replace H := H.2
  refine ev_dastore (pc1 := 24) (n := 6) (TBof tbs_110 _ rfl) rfl ltc_77 sh_77 H.1 ?_
  replace H := H.2
  exact ev_return (TBof tbs_110 _ rfl) rt_110 ⟨rfl, H⟩
set_option maxRecDepth 100000 in
theorem R_X4_turning_0 {d : Nat} {v1 : Int32} {M : Im} {h : Hm} {D : Dm} {Q : UInt64 → Im → Hm → Dm → Prop} (H : CI d nX4_d [.int v1] M h D (fun x1 M1 h1 D1 => vp_in (x1 + 3) 168 ∧ (vf_n64 (FP.ddiv (FP.i2d (M1 74 ((x1 + 3).toNatClampNeg))) 4616189618054758400) ∧ (vf_n64 (FP.dadd FP.dconst1 (FP.ddiv (FP.i2d (M1 74 ((x1 + 3).toNatClampNeg))) 4616189618054758400)) ∧ (Q (FP.dadd FP.dconst1 (FP.ddiv (FP.i2d (M1 74 ((x1 + 3).toNatClampNeg))) 4616189618054758400)) M1 h1 D1))))) : EvD d nX4_turning 0 [(0, .ref 73), (1, .int v1)] [] M h D Q := by
  refine ev_dconst1 (pc1 := 1) (TBof tbs_111 _ rfl) rfl ?_
  refine ev_aload_n (pc1 := 2) rfl rfl (TBof tbs_111 _ rfl) rfl ?_
  refine ev_getP (pc1 := 5) (ci := 4) (k := 0) (a := 74) (TBof tbs_111 _ rfl) rfl (fldof mo_111 fl_4_7) ltc_73 sh_73 nk_4_0 fp_4_0 (by decide) pf_73_0 ?_
  refine ev_iload_n (pc1 := 6) rfl (TBof tbs_111 _ rfl) rfl ?_
  refine ev_callsI (pc1 := 9) (as := [.int v1]) (r := [.ref 74, .double FP.dconst1]) (TBof tbs_111 _ rfl) rfl (lnkof mo_111 ln_4_55) (Or.inl rfl) rfl na_86 (Nat.le_of_ble_eq_true rfl) H (fun x1 M1 h1 D1 H => ?_)
  refine ev_iconst (pc1 := 10) (x := 3) (by decide) (TBof tbs_111 _ rfl) rfl ?_
  refine ev_iadd (pc1 := 11) (TBof tbs_111 _ rfl) rfl ?_
  refine ev_iaload (pc1 := 12) (n := 168) (TBof tbs_111 _ rfl) rfl ltc_74 sh_74 H.1 ?_
  replace H := H.2
  refine ev_i2d (pc1 := 13) (TBof tbs_111 _ rfl) rfl ?_
  refine ev_ldc2_w (pc1 := 16) (x := 4616189618054758400) rfl (TBof tbs_111 _ rfl) rfl ?_
  refine ev_ddiv (pc1 := 17) H.1 (TBof tbs_111 _ rfl) rfl ?_
  replace H := H.2
  refine ev_dadd (pc1 := 18) H.1 (TBof tbs_111 _ rfl) rfl ?_
  replace H := H.2
  exact ev_dreturn (TBof tbs_111 _ rfl) rt_111 ⟨_, rfl, H⟩
set_option maxRecDepth 100000 in
theorem R_X4_open_0 {d : Nat} {v1 : Int32} {M : Im} {h : Hm} {D : Dm} {Q : Int32 → Im → Hm → Dm → Prop} (H : CI d nX4_isDrawer [.ref 73, .int v1] M h D (fun x1 M1 h1 D1 => ((¬ (x1 = 0)) → (CI d nX4_isGame [.ref 73] M1 h1 D1 (fun x3 M3 h3 D3 => ((¬ (x3 = 0)) → (CI d nX4_d [.int v1] M3 h3 D3 (fun x5 M5 h5 D5 => vp_in (x5 + 6) 168 ∧ (((¬ ((M5 74 ((x5 + 6).toNatClampNeg)) = 1)) → (CI d nX4_canOpen [.ref 73, .int v1] M5 h5 D5 (fun x7 M7 h7 D7 => ((¬ (x7 = 0)) → (CV d nX4_record [.ref 73] M7 h7 D7 (fun M9 h9 D9 => CI d nX4_d [.int v1] M9 h9 D9 (fun x10 M10 h10 D10 => vp_in (x10 + 6) 168 ∧ (CI d nX4_d [.int v1] (up2 M10 74 ((x10 + 6).toNatClampNeg) 1) h10 D10 (fun x11 M11 h11 D11 => CI d nX4_d [.int v1] M11 h11 D11 (fun x12 M12 h12 D12 => vp_in (x12 + 1) 168 ∧ (((¬ ((M12 74 ((x12 + 1).toNatClampNeg)) = 3)) → (vp_in (x11 + 7) 168 ∧ (CD d nX4_turning [.ref 73, .int v1] (up2 M12 74 ((x11 + 7).toNatClampNeg) 0) h12 D12 (fun x14 M14 h14 D14 => CV d nX4_step [.ref 73, .double x14] M14 h14 D14 (fun M15 h15 D15 => CI d nX4_sumOf [.ref 73, .int 6] M15 h15 D15 (fun x16 M16 h16 D16 => Q x16 M16 h16 D16)))))) ∧ (¬ (¬ ((M12 74 ((x12 + 1).toNatClampNeg)) = 3)) → (vp_in (x11 + 7) 168 ∧ (CD d nX4_turning [.ref 73, .int v1] (up2 M12 74 ((x11 + 7).toNatClampNeg) 1) h12 D12 (fun x17 M17 h17 D17 => CV d nX4_step [.ref 73, .double x17] M17 h17 D17 (fun M18 h18 D18 => CI d nX4_sumOf [.ref 73, .int 6] M18 h18 D18 (fun x19 M19 h19 D19 => Q x19 M19 h19 D19)))))))))))))) ∧ (¬ (¬ (x7 = 0)) → (Q (-4) M7 h7 D7))))) ∧ (¬ (¬ ((M5 74 ((x5 + 6).toNatClampNeg)) = 1)) → (Q (-5) M5 h5 D5)))))) ∧ (¬ (¬ (x3 = 0)) → (Q (-4) M3 h3 D3))))) ∧ (¬ (¬ (x1 = 0)) → (Q (-1) M1 h1 D1)))) : EvI d nX4_open 0 [(0, .ref 73), (1, .int v1)] [] M h D Q := by
  refine ev_aload_n (pc1 := 1) rfl rfl (TBof tbs_112 _ rfl) rfl ?_
  refine ev_iload_n (pc1 := 2) rfl (TBof tbs_112 _ rfl) rfl ?_
  refine ev_callvI (pc1 := 5) (as := [.int v1]) (r := []) (TBof tbs_112 _ rfl) rfl (lnkof mo_112 ln_4_58) rfl na_88 ltc_73 (sh_73.trans (by rw [mo_88])) (Nat.le_of_ble_eq_true rfl) H (fun x1 M1 h1 D1 H => ?_)
  refine ev_if (pc1 := 8) (t := 10) (TBof tbs_112 _ rfl) (by decide) rfl (fun c2 => ?_) (fun c2 => ?_)
  · replace H := H.1 c2
    refine ev_aload_n (pc1 := 11) rfl rfl (TBof tbs_112 _ rfl) rfl ?_
    refine ev_callvI (pc1 := 14) (as := []) (r := []) (TBof tbs_112 _ rfl) rfl (lnkof mo_112 ln_4_62) rfl na_89 ltc_73 (sh_73.trans (by rw [mo_89])) (Nat.le_of_ble_eq_true rfl) H (fun x3 M3 h3 D3 H => ?_)
    refine ev_if (pc1 := 17) (t := 20) (TBof tbs_112 _ rfl) (by decide) rfl (fun c4 => ?_) (fun c4 => ?_)
    · replace H := H.1 c4
      refine ev_aload_n (pc1 := 21) rfl rfl (TBof tbs_112 _ rfl) rfl ?_
      refine ev_getP (pc1 := 24) (ci := 4) (k := 0) (a := 74) (TBof tbs_112 _ rfl) rfl (fldof mo_112 fl_4_7) ltc_73 sh_73 nk_4_0 fp_4_0 (by decide) pf_73_0 ?_
      refine ev_iload_n (pc1 := 25) rfl (TBof tbs_112 _ rfl) rfl ?_
      refine ev_callsI (pc1 := 28) (as := [.int v1]) (r := [.ref 74]) (TBof tbs_112 _ rfl) rfl (lnkof mo_112 ln_4_55) (Or.inl rfl) rfl na_86 (Nat.le_of_ble_eq_true rfl) H (fun x5 M5 h5 D5 H => ?_)
      refine ev_bipush (pc1 := 30) (x := 6) (by decide) (TBof tbs_112 _ rfl) rfl ?_
      refine ev_iadd (pc1 := 31) (TBof tbs_112 _ rfl) rfl ?_
      refine ev_iaload (pc1 := 32) (n := 168) (TBof tbs_112 _ rfl) rfl ltc_74 sh_74 H.1 ?_
      replace H := H.2
      refine ev_iconst (pc1 := 33) (x := 1) (by decide) (TBof tbs_112 _ rfl) rfl ?_
      refine ev_icmp (pc1 := 36) (t := 39) (TBof tbs_112 _ rfl) (by decide) rfl (fun c6 => ?_) (fun c6 => ?_)
      · replace H := H.1 c6
        refine ev_aload_n (pc1 := 40) rfl rfl (TBof tbs_112 _ rfl) rfl ?_
        refine ev_iload_n (pc1 := 41) rfl (TBof tbs_112 _ rfl) rfl ?_
        refine ev_callvI (pc1 := 44) (as := [.int v1]) (r := []) (TBof tbs_112 _ rfl) rfl (lnkof mo_112 ln_4_113) rfl na_107 ltc_73 (sh_73.trans (by rw [mo_107])) (Nat.le_of_ble_eq_true rfl) H (fun x7 M7 h7 D7 H => ?_)
        refine ev_if (pc1 := 47) (t := 50) (TBof tbs_112 _ rfl) (by decide) rfl (fun c8 => ?_) (fun c8 => ?_)
        · replace H := H.1 c8
          refine ev_aload_n (pc1 := 51) rfl rfl (TBof tbs_112 _ rfl) rfl ?_
          refine ev_callvV (pc1 := 54) (as := []) (r := []) (TBof tbs_112 _ rfl) rfl (lnkof mo_112 ln_4_66) rfl na_87 ltc_73 (sh_73.trans (by rw [mo_87])) (Nat.le_of_ble_eq_true rfl) H (fun M9 h9 D9 H => ?_)
          refine ev_aload_n (pc1 := 55) rfl rfl (TBof tbs_112 _ rfl) rfl ?_
          refine ev_getP (pc1 := 58) (ci := 4) (k := 0) (a := 74) (TBof tbs_112 _ rfl) rfl (fldof mo_112 fl_4_7) ltc_73 sh_73 nk_4_0 fp_4_0 (by decide) pf_73_0 ?_
          refine ev_iload_n (pc1 := 59) rfl (TBof tbs_112 _ rfl) rfl ?_
          refine ev_callsI (pc1 := 62) (as := [.int v1]) (r := [.ref 74]) (TBof tbs_112 _ rfl) rfl (lnkof mo_112 ln_4_55) (Or.inl rfl) rfl na_86 (Nat.le_of_ble_eq_true rfl) H (fun x10 M10 h10 D10 H => ?_)
          refine ev_bipush (pc1 := 64) (x := 6) (by decide) (TBof tbs_112 _ rfl) rfl ?_
          refine ev_iadd (pc1 := 65) (TBof tbs_112 _ rfl) rfl ?_
          refine ev_iconst (pc1 := 66) (x := 1) (by decide) (TBof tbs_112 _ rfl) rfl ?_
          refine ev_iastore (pc1 := 67) (n := 168) (TBof tbs_112 _ rfl) rfl ltc_74 sh_74 H.1 ?_
          replace H := H.2
          refine ev_aload_n (pc1 := 68) rfl rfl (TBof tbs_112 _ rfl) rfl ?_
          refine ev_getP (pc1 := 71) (ci := 4) (k := 0) (a := 74) (TBof tbs_112 _ rfl) rfl (fldof mo_112 fl_4_7) ltc_73 sh_73 nk_4_0 fp_4_0 (by decide) pf_73_0 ?_
          refine ev_iload_n (pc1 := 72) rfl (TBof tbs_112 _ rfl) rfl ?_
          refine ev_callsI (pc1 := 75) (as := [.int v1]) (r := [.ref 74]) (TBof tbs_112 _ rfl) rfl (lnkof mo_112 ln_4_55) (Or.inl rfl) rfl na_86 (Nat.le_of_ble_eq_true rfl) H (fun x11 M11 h11 D11 H => ?_)
          refine ev_bipush (pc1 := 77) (x := 7) (by decide) (TBof tbs_112 _ rfl) rfl ?_
          refine ev_iadd (pc1 := 78) (TBof tbs_112 _ rfl) rfl ?_
          refine ev_aload_n (pc1 := 79) rfl rfl (TBof tbs_112 _ rfl) rfl ?_
          refine ev_getP (pc1 := 82) (ci := 4) (k := 0) (a := 74) (TBof tbs_112 _ rfl) rfl (fldof mo_112 fl_4_7) ltc_73 sh_73 nk_4_0 fp_4_0 (by decide) pf_73_0 ?_
          refine ev_iload_n (pc1 := 83) rfl (TBof tbs_112 _ rfl) rfl ?_
          refine ev_callsI (pc1 := 86) (as := [.int v1]) (r := [.ref 74, .int (x11 + 7), .ref 74]) (TBof tbs_112 _ rfl) rfl (lnkof mo_112 ln_4_55) (Or.inl rfl) rfl na_86 (Nat.le_of_ble_eq_true rfl) H (fun x12 M12 h12 D12 H => ?_)
          refine ev_iconst (pc1 := 87) (x := 1) (by decide) (TBof tbs_112 _ rfl) rfl ?_
          refine ev_iadd (pc1 := 88) (TBof tbs_112 _ rfl) rfl ?_
          refine ev_iaload (pc1 := 89) (n := 168) (TBof tbs_112 _ rfl) rfl ltc_74 sh_74 H.1 ?_
          replace H := H.2
          refine ev_iconst (pc1 := 90) (x := 3) (by decide) (TBof tbs_112 _ rfl) rfl ?_
          refine ev_icmp (pc1 := 93) (t := 97) (TBof tbs_112 _ rfl) (by decide) rfl (fun c13 => ?_) (fun c13 => ?_)
          · replace H := H.1 c13
            refine ev_iconst (pc1 := 98) (x := 0) (by decide) (TBof tbs_112 _ rfl) rfl ?_
            refine ev_iastore (pc1 := 99) (n := 168) (TBof tbs_112 _ rfl) rfl ltc_74 sh_74 H.1 ?_
            replace H := H.2
            refine ev_aload_n (pc1 := 100) rfl rfl (TBof tbs_112 _ rfl) rfl ?_
            refine ev_aload_n (pc1 := 101) rfl rfl (TBof tbs_112 _ rfl) rfl ?_
            refine ev_iload_n (pc1 := 102) rfl (TBof tbs_112 _ rfl) rfl ?_
            refine ev_callvD (pc1 := 105) (as := [.int v1]) (r := [.ref 73]) (TBof tbs_112 _ rfl) rfl (lnkof mo_112 ln_4_116) rfl na_111 ltc_73 (sh_73.trans (by rw [mo_111])) (Nat.le_of_ble_eq_true rfl) H (fun x14 M14 h14 D14 H => ?_)
            refine ev_callvV (pc1 := 108) (as := [.double x14]) (r := []) (TBof tbs_112 _ rfl) rfl (lnkof mo_112 ln_4_120) rfl na_110 ltc_73 (sh_73.trans (by rw [mo_110])) (Nat.le_of_ble_eq_true rfl) H (fun M15 h15 D15 H => ?_)
            refine ev_aload_n (pc1 := 109) rfl rfl (TBof tbs_112 _ rfl) rfl ?_
            refine ev_bipush (pc1 := 111) (x := 6) (by decide) (TBof tbs_112 _ rfl) rfl ?_
            refine ev_callvI (pc1 := 114) (as := [.int 6]) (r := []) (TBof tbs_112 _ rfl) rfl (lnkof mo_112 ln_4_124) rfl na_90 ltc_73 (sh_73.trans (by rw [mo_90])) (Nat.le_of_ble_eq_true rfl) H (fun x16 M16 h16 D16 H => ?_)
            exact ev_ireturn (TBof tbs_112 _ rfl) (retI_i rt_112) ⟨_, rfl, H⟩
          · replace H := H.2 c13
            refine ev_iconst (pc1 := 94) (x := 1) (by decide) (TBof tbs_112 _ rfl) rfl ?_
            refine ev_goto (pc1 := 98) (TBof tbs_112 _ rfl) (by decide) ?_
            refine ev_iastore (pc1 := 99) (n := 168) (TBof tbs_112 _ rfl) rfl ltc_74 sh_74 H.1 ?_
            replace H := H.2
            refine ev_aload_n (pc1 := 100) rfl rfl (TBof tbs_112 _ rfl) rfl ?_
            refine ev_aload_n (pc1 := 101) rfl rfl (TBof tbs_112 _ rfl) rfl ?_
            refine ev_iload_n (pc1 := 102) rfl (TBof tbs_112 _ rfl) rfl ?_
            refine ev_callvD (pc1 := 105) (as := [.int v1]) (r := [.ref 73]) (TBof tbs_112 _ rfl) rfl (lnkof mo_112 ln_4_116) rfl na_111 ltc_73 (sh_73.trans (by rw [mo_111])) (Nat.le_of_ble_eq_true rfl) H (fun x17 M17 h17 D17 H => ?_)
            refine ev_callvV (pc1 := 108) (as := [.double x17]) (r := []) (TBof tbs_112 _ rfl) rfl (lnkof mo_112 ln_4_120) rfl na_110 ltc_73 (sh_73.trans (by rw [mo_110])) (Nat.le_of_ble_eq_true rfl) H (fun M18 h18 D18 H => ?_)
            refine ev_aload_n (pc1 := 109) rfl rfl (TBof tbs_112 _ rfl) rfl ?_
            refine ev_bipush (pc1 := 111) (x := 6) (by decide) (TBof tbs_112 _ rfl) rfl ?_
            refine ev_callvI (pc1 := 114) (as := [.int 6]) (r := []) (TBof tbs_112 _ rfl) rfl (lnkof mo_112 ln_4_124) rfl na_90 ltc_73 (sh_73.trans (by rw [mo_90])) (Nat.le_of_ble_eq_true rfl) H (fun x19 M19 h19 D19 H => ?_)
            exact ev_ireturn (TBof tbs_112 _ rfl) (retI_i rt_112) ⟨_, rfl, H⟩
        · replace H := H.2 c8
          refine ev_bipush (pc1 := 49) (x := (-4)) (by decide) (TBof tbs_112 _ rfl) rfl ?_
          exact ev_ireturn (TBof tbs_112 _ rfl) (retI_i rt_112) ⟨_, rfl, H⟩
      · replace H := H.2 c6
        refine ev_bipush (pc1 := 38) (x := (-5)) (by decide) (TBof tbs_112 _ rfl) rfl ?_
        exact ev_ireturn (TBof tbs_112 _ rfl) (retI_i rt_112) ⟨_, rfl, H⟩
    · replace H := H.2 c4
      refine ev_bipush (pc1 := 19) (x := (-4)) (by decide) (TBof tbs_112 _ rfl) rfl ?_
      exact ev_ireturn (TBof tbs_112 _ rfl) (retI_i rt_112) ⟨_, rfl, H⟩
  · replace H := H.2 c2
    refine ev_iconst (pc1 := 9) (x := (-1)) (by decide) (TBof tbs_112 _ rfl) rfl ?_
    exact ev_ireturn (TBof tbs_112 _ rfl) (retI_i rt_112) ⟨_, rfl, H⟩
set_option maxRecDepth 100000 in
theorem R_X4_close_0 {d : Nat} {v1 : Int32} {M : Im} {h : Hm} {D : Dm} {Q : Int32 → Im → Hm → Dm → Prop} (H : CI d nX4_isDrawer [.ref 73, .int v1] M h D (fun x1 M1 h1 D1 => ((¬ (x1 = 0)) → (CI d nX4_isGame [.ref 73] M1 h1 D1 (fun x3 M3 h3 D3 => ((¬ (x3 = 0)) → (CI d nX4_d [.int v1] M3 h3 D3 (fun x5 M5 h5 D5 => vp_in (x5 + 6) 168 ∧ (((¬ ((M5 74 ((x5 + 6).toNatClampNeg)) = 0)) → (CI d nX4_isReached [.ref 73, .int v1] M5 h5 D5 (fun x7 M7 h7 D7 => ((¬ (x7 = 0)) → (CV d nX4_record [.ref 73] M7 h7 D7 (fun M9 h9 D9 => CI d nX4_d [.int v1] M9 h9 D9 (fun x10 M10 h10 D10 => vp_in (x10 + 6) 168 ∧ (CD d nX4_turning [.ref 73, .int v1] (up2 M10 74 ((x10 + 6).toNatClampNeg) 0) h10 D10 (fun x11 M11 h11 D11 => CV d nX4_step [.ref 73, .double x11] M11 h11 D11 (fun M12 h12 D12 => CI d nX4_sumOf [.ref 73, .int 6] M12 h12 D12 (fun x13 M13 h13 D13 => Q x13 M13 h13 D13)))))))) ∧ (¬ (¬ (x7 = 0)) → (Q (-4) M7 h7 D7))))) ∧ (¬ (¬ ((M5 74 ((x5 + 6).toNatClampNeg)) = 0)) → (Q (-5) M5 h5 D5)))))) ∧ (¬ (¬ (x3 = 0)) → (Q (-4) M3 h3 D3))))) ∧ (¬ (¬ (x1 = 0)) → (Q (-1) M1 h1 D1)))) : EvI d nX4_close 0 [(0, .ref 73), (1, .int v1)] [] M h D Q := by
  refine ev_aload_n (pc1 := 1) rfl rfl (TBof tbs_113 _ rfl) rfl ?_
  refine ev_iload_n (pc1 := 2) rfl (TBof tbs_113 _ rfl) rfl ?_
  refine ev_callvI (pc1 := 5) (as := [.int v1]) (r := []) (TBof tbs_113 _ rfl) rfl (lnkof mo_113 ln_4_58) rfl na_88 ltc_73 (sh_73.trans (by rw [mo_88])) (Nat.le_of_ble_eq_true rfl) H (fun x1 M1 h1 D1 H => ?_)
  refine ev_if (pc1 := 8) (t := 10) (TBof tbs_113 _ rfl) (by decide) rfl (fun c2 => ?_) (fun c2 => ?_)
  · replace H := H.1 c2
    refine ev_aload_n (pc1 := 11) rfl rfl (TBof tbs_113 _ rfl) rfl ?_
    refine ev_callvI (pc1 := 14) (as := []) (r := []) (TBof tbs_113 _ rfl) rfl (lnkof mo_113 ln_4_62) rfl na_89 ltc_73 (sh_73.trans (by rw [mo_89])) (Nat.le_of_ble_eq_true rfl) H (fun x3 M3 h3 D3 H => ?_)
    refine ev_if (pc1 := 17) (t := 20) (TBof tbs_113 _ rfl) (by decide) rfl (fun c4 => ?_) (fun c4 => ?_)
    · replace H := H.1 c4
      refine ev_aload_n (pc1 := 21) rfl rfl (TBof tbs_113 _ rfl) rfl ?_
      refine ev_getP (pc1 := 24) (ci := 4) (k := 0) (a := 74) (TBof tbs_113 _ rfl) rfl (fldof mo_113 fl_4_7) ltc_73 sh_73 nk_4_0 fp_4_0 (by decide) pf_73_0 ?_
      refine ev_iload_n (pc1 := 25) rfl (TBof tbs_113 _ rfl) rfl ?_
      refine ev_callsI (pc1 := 28) (as := [.int v1]) (r := [.ref 74]) (TBof tbs_113 _ rfl) rfl (lnkof mo_113 ln_4_55) (Or.inl rfl) rfl na_86 (Nat.le_of_ble_eq_true rfl) H (fun x5 M5 h5 D5 H => ?_)
      refine ev_bipush (pc1 := 30) (x := 6) (by decide) (TBof tbs_113 _ rfl) rfl ?_
      refine ev_iadd (pc1 := 31) (TBof tbs_113 _ rfl) rfl ?_
      refine ev_iaload (pc1 := 32) (n := 168) (TBof tbs_113 _ rfl) rfl ltc_74 sh_74 H.1 ?_
      replace H := H.2
      refine ev_if (pc1 := 35) (t := 38) (TBof tbs_113 _ rfl) (by decide) rfl (fun c6 => ?_) (fun c6 => ?_)
      · replace H := H.1 c6
        refine ev_aload_n (pc1 := 39) rfl rfl (TBof tbs_113 _ rfl) rfl ?_
        refine ev_iload_n (pc1 := 40) rfl (TBof tbs_113 _ rfl) rfl ?_
        refine ev_callvI (pc1 := 43) (as := [.int v1]) (r := []) (TBof tbs_113 _ rfl) rfl (lnkof mo_113 ln_4_108) rfl na_106 ltc_73 (sh_73.trans (by rw [mo_106])) (Nat.le_of_ble_eq_true rfl) H (fun x7 M7 h7 D7 H => ?_)
        refine ev_if (pc1 := 46) (t := 49) (TBof tbs_113 _ rfl) (by decide) rfl (fun c8 => ?_) (fun c8 => ?_)
        · replace H := H.1 c8
          refine ev_aload_n (pc1 := 50) rfl rfl (TBof tbs_113 _ rfl) rfl ?_
          refine ev_callvV (pc1 := 53) (as := []) (r := []) (TBof tbs_113 _ rfl) rfl (lnkof mo_113 ln_4_66) rfl na_87 ltc_73 (sh_73.trans (by rw [mo_87])) (Nat.le_of_ble_eq_true rfl) H (fun M9 h9 D9 H => ?_)
          refine ev_aload_n (pc1 := 54) rfl rfl (TBof tbs_113 _ rfl) rfl ?_
          refine ev_getP (pc1 := 57) (ci := 4) (k := 0) (a := 74) (TBof tbs_113 _ rfl) rfl (fldof mo_113 fl_4_7) ltc_73 sh_73 nk_4_0 fp_4_0 (by decide) pf_73_0 ?_
          refine ev_iload_n (pc1 := 58) rfl (TBof tbs_113 _ rfl) rfl ?_
          refine ev_callsI (pc1 := 61) (as := [.int v1]) (r := [.ref 74]) (TBof tbs_113 _ rfl) rfl (lnkof mo_113 ln_4_55) (Or.inl rfl) rfl na_86 (Nat.le_of_ble_eq_true rfl) H (fun x10 M10 h10 D10 H => ?_)
          refine ev_bipush (pc1 := 63) (x := 6) (by decide) (TBof tbs_113 _ rfl) rfl ?_
          refine ev_iadd (pc1 := 64) (TBof tbs_113 _ rfl) rfl ?_
          refine ev_iconst (pc1 := 65) (x := 0) (by decide) (TBof tbs_113 _ rfl) rfl ?_
          refine ev_iastore (pc1 := 66) (n := 168) (TBof tbs_113 _ rfl) rfl ltc_74 sh_74 H.1 ?_
          replace H := H.2
          refine ev_aload_n (pc1 := 67) rfl rfl (TBof tbs_113 _ rfl) rfl ?_
          refine ev_aload_n (pc1 := 68) rfl rfl (TBof tbs_113 _ rfl) rfl ?_
          refine ev_iload_n (pc1 := 69) rfl (TBof tbs_113 _ rfl) rfl ?_
          refine ev_callvD (pc1 := 72) (as := [.int v1]) (r := [.ref 73]) (TBof tbs_113 _ rfl) rfl (lnkof mo_113 ln_4_116) rfl na_111 ltc_73 (sh_73.trans (by rw [mo_111])) (Nat.le_of_ble_eq_true rfl) H (fun x11 M11 h11 D11 H => ?_)
          refine ev_callvV (pc1 := 75) (as := [.double x11]) (r := []) (TBof tbs_113 _ rfl) rfl (lnkof mo_113 ln_4_120) rfl na_110 ltc_73 (sh_73.trans (by rw [mo_110])) (Nat.le_of_ble_eq_true rfl) H (fun M12 h12 D12 H => ?_)
          refine ev_aload_n (pc1 := 76) rfl rfl (TBof tbs_113 _ rfl) rfl ?_
          refine ev_bipush (pc1 := 78) (x := 6) (by decide) (TBof tbs_113 _ rfl) rfl ?_
          refine ev_callvI (pc1 := 81) (as := [.int 6]) (r := []) (TBof tbs_113 _ rfl) rfl (lnkof mo_113 ln_4_124) rfl na_90 ltc_73 (sh_73.trans (by rw [mo_90])) (Nat.le_of_ble_eq_true rfl) H (fun x13 M13 h13 D13 H => ?_)
          exact ev_ireturn (TBof tbs_113 _ rfl) (retI_i rt_113) ⟨_, rfl, H⟩
        · replace H := H.2 c8
          refine ev_bipush (pc1 := 48) (x := (-4)) (by decide) (TBof tbs_113 _ rfl) rfl ?_
          exact ev_ireturn (TBof tbs_113 _ rfl) (retI_i rt_113) ⟨_, rfl, H⟩
      · replace H := H.2 c6
        refine ev_bipush (pc1 := 37) (x := (-5)) (by decide) (TBof tbs_113 _ rfl) rfl ?_
        exact ev_ireturn (TBof tbs_113 _ rfl) (retI_i rt_113) ⟨_, rfl, H⟩
    · replace H := H.2 c4
      refine ev_bipush (pc1 := 19) (x := (-4)) (by decide) (TBof tbs_113 _ rfl) rfl ?_
      exact ev_ireturn (TBof tbs_113 _ rfl) (retI_i rt_113) ⟨_, rfl, H⟩
  · replace H := H.2 c2
    refine ev_iconst (pc1 := 9) (x := (-1)) (by decide) (TBof tbs_113 _ rfl) rfl ?_
    exact ev_ireturn (TBof tbs_113 _ rfl) (retI_i rt_113) ⟨_, rfl, H⟩
set_option maxRecDepth 100000 in
theorem R_X4_lift_0 {d : Nat} {v1 : Int32} {M : Im} {h : Hm} {D : Dm} {Q : Int32 → Im → Hm → Dm → Prop} (H : CI d nX4_isDrawer [.ref 73, .int v1] M h D (fun x1 M1 h1 D1 => ((¬ (x1 = 0)) → (CI d nX4_isGame [.ref 73] M1 h1 D1 (fun x3 M3 h3 D3 => ((¬ (x3 = 0)) → (CI d nX4_d [.int v1] M3 h3 D3 (fun x5 M5 h5 D5 => vp_in (x5 + 5) 168 ∧ (CI d nX4_d [.int v1] M5 h5 D5 (fun x6 M6 h6 D6 => vp_in (x6 + 4) 168 ∧ (((¬ ((M5 74 ((x5 + 5).toNatClampNeg)) = (M6 74 ((x6 + 4).toNatClampNeg)))) → (CI d nX4_canLift [.ref 73, .int v1] M6 h6 D6 (fun x8 M8 h8 D8 => ((¬ (x8 = 0)) → (CV d nX4_record [.ref 73] M8 h8 D8 (fun M10 h10 D10 => CI d nX4_d [.int v1] M10 h10 D10 (fun x11 M11 h11 D11 => vp_in (x11 + 5) 168 ∧ (vp_in (x11 + 5) 168 ∧ (CV d nX4_step [.ref 73, .double 4612811918334230528] (up2 M11 74 ((x11 + 5).toNatClampNeg) ((M11 74 ((x11 + 5).toNatClampNeg)) + 1)) h11 D11 (fun M12 h12 D12 => CI d nX4_d [.int v1] M12 h12 D12 (fun x13 M13 h13 D13 => vp_in (x13 + 5) 168 ∧ (Q (M13 74 ((x13 + 5).toNatClampNeg)) M13 h13 D13))))))))) ∧ (¬ (¬ (x8 = 0)) → (Q (-4) M8 h8 D8))))) ∧ (¬ (¬ ((M5 74 ((x5 + 5).toNatClampNeg)) = (M6 74 ((x6 + 4).toNatClampNeg)))) → (Q (-5) M6 h6 D6)))))))) ∧ (¬ (¬ (x3 = 0)) → (Q (-4) M3 h3 D3))))) ∧ (¬ (¬ (x1 = 0)) → (Q (-1) M1 h1 D1)))) : EvI d nX4_lift 0 [(0, .ref 73), (1, .int v1)] [] M h D Q := by
  refine ev_aload_n (pc1 := 1) rfl rfl (TBof tbs_114 _ rfl) rfl ?_
  refine ev_iload_n (pc1 := 2) rfl (TBof tbs_114 _ rfl) rfl ?_
  refine ev_callvI (pc1 := 5) (as := [.int v1]) (r := []) (TBof tbs_114 _ rfl) rfl (lnkof mo_114 ln_4_58) rfl na_88 ltc_73 (sh_73.trans (by rw [mo_88])) (Nat.le_of_ble_eq_true rfl) H (fun x1 M1 h1 D1 H => ?_)
  refine ev_if (pc1 := 8) (t := 10) (TBof tbs_114 _ rfl) (by decide) rfl (fun c2 => ?_) (fun c2 => ?_)
  · replace H := H.1 c2
    refine ev_aload_n (pc1 := 11) rfl rfl (TBof tbs_114 _ rfl) rfl ?_
    refine ev_callvI (pc1 := 14) (as := []) (r := []) (TBof tbs_114 _ rfl) rfl (lnkof mo_114 ln_4_62) rfl na_89 ltc_73 (sh_73.trans (by rw [mo_89])) (Nat.le_of_ble_eq_true rfl) H (fun x3 M3 h3 D3 H => ?_)
    refine ev_if (pc1 := 17) (t := 20) (TBof tbs_114 _ rfl) (by decide) rfl (fun c4 => ?_) (fun c4 => ?_)
    · replace H := H.1 c4
      refine ev_aload_n (pc1 := 21) rfl rfl (TBof tbs_114 _ rfl) rfl ?_
      refine ev_getP (pc1 := 24) (ci := 4) (k := 0) (a := 74) (TBof tbs_114 _ rfl) rfl (fldof mo_114 fl_4_7) ltc_73 sh_73 nk_4_0 fp_4_0 (by decide) pf_73_0 ?_
      refine ev_iload_n (pc1 := 25) rfl (TBof tbs_114 _ rfl) rfl ?_
      refine ev_callsI (pc1 := 28) (as := [.int v1]) (r := [.ref 74]) (TBof tbs_114 _ rfl) rfl (lnkof mo_114 ln_4_55) (Or.inl rfl) rfl na_86 (Nat.le_of_ble_eq_true rfl) H (fun x5 M5 h5 D5 H => ?_)
      refine ev_iconst (pc1 := 29) (x := 5) (by decide) (TBof tbs_114 _ rfl) rfl ?_
      refine ev_iadd (pc1 := 30) (TBof tbs_114 _ rfl) rfl ?_
      refine ev_iaload (pc1 := 31) (n := 168) (TBof tbs_114 _ rfl) rfl ltc_74 sh_74 H.1 ?_
      replace H := H.2
      refine ev_aload_n (pc1 := 32) rfl rfl (TBof tbs_114 _ rfl) rfl ?_
      refine ev_getP (pc1 := 35) (ci := 4) (k := 0) (a := 74) (TBof tbs_114 _ rfl) rfl (fldof mo_114 fl_4_7) ltc_73 sh_73 nk_4_0 fp_4_0 (by decide) pf_73_0 ?_
      refine ev_iload_n (pc1 := 36) rfl (TBof tbs_114 _ rfl) rfl ?_
      refine ev_callsI (pc1 := 39) (as := [.int v1]) (r := [.ref 74, .int (M5 74 ((x5 + 5).toNatClampNeg))]) (TBof tbs_114 _ rfl) rfl (lnkof mo_114 ln_4_55) (Or.inl rfl) rfl na_86 (Nat.le_of_ble_eq_true rfl) H (fun x6 M6 h6 D6 H => ?_)
      refine ev_iconst (pc1 := 40) (x := 4) (by decide) (TBof tbs_114 _ rfl) rfl ?_
      refine ev_iadd (pc1 := 41) (TBof tbs_114 _ rfl) rfl ?_
      refine ev_iaload (pc1 := 42) (n := 168) (TBof tbs_114 _ rfl) rfl ltc_74 sh_74 H.1 ?_
      replace H := H.2
      refine ev_icmp (pc1 := 45) (t := 48) (TBof tbs_114 _ rfl) (by decide) rfl (fun c7 => ?_) (fun c7 => ?_)
      · replace H := H.1 c7
        refine ev_aload_n (pc1 := 49) rfl rfl (TBof tbs_114 _ rfl) rfl ?_
        refine ev_iload_n (pc1 := 50) rfl (TBof tbs_114 _ rfl) rfl ?_
        refine ev_callvI (pc1 := 53) (as := [.int v1]) (r := []) (TBof tbs_114 _ rfl) rfl (lnkof mo_114 ln_4_127) rfl na_108 ltc_73 (sh_73.trans (by rw [mo_108])) (Nat.le_of_ble_eq_true rfl) H (fun x8 M8 h8 D8 H => ?_)
        refine ev_if (pc1 := 56) (t := 59) (TBof tbs_114 _ rfl) (by decide) rfl (fun c9 => ?_) (fun c9 => ?_)
        · replace H := H.1 c9
          refine ev_aload_n (pc1 := 60) rfl rfl (TBof tbs_114 _ rfl) rfl ?_
          refine ev_callvV (pc1 := 63) (as := []) (r := []) (TBof tbs_114 _ rfl) rfl (lnkof mo_114 ln_4_66) rfl na_87 ltc_73 (sh_73.trans (by rw [mo_87])) (Nat.le_of_ble_eq_true rfl) H (fun M10 h10 D10 H => ?_)
          refine ev_aload_n (pc1 := 64) rfl rfl (TBof tbs_114 _ rfl) rfl ?_
          refine ev_getP (pc1 := 67) (ci := 4) (k := 0) (a := 74) (TBof tbs_114 _ rfl) rfl (fldof mo_114 fl_4_7) ltc_73 sh_73 nk_4_0 fp_4_0 (by decide) pf_73_0 ?_
          refine ev_iload_n (pc1 := 68) rfl (TBof tbs_114 _ rfl) rfl ?_
          refine ev_callsI (pc1 := 71) (as := [.int v1]) (r := [.ref 74]) (TBof tbs_114 _ rfl) rfl (lnkof mo_114 ln_4_55) (Or.inl rfl) rfl na_86 (Nat.le_of_ble_eq_true rfl) H (fun x11 M11 h11 D11 H => ?_)
          refine ev_iconst (pc1 := 72) (x := 5) (by decide) (TBof tbs_114 _ rfl) rfl ?_
          refine ev_iadd (pc1 := 73) (TBof tbs_114 _ rfl) rfl ?_
          refine ev_dup2 (pc1 := 74) rfl rfl (TBof tbs_114 _ rfl) rfl ?_
          refine ev_iaload (pc1 := 75) (n := 168) (TBof tbs_114 _ rfl) rfl ltc_74 sh_74 H.1 ?_
          replace H := H.2
          refine ev_iconst (pc1 := 76) (x := 1) (by decide) (TBof tbs_114 _ rfl) rfl ?_
          refine ev_iadd (pc1 := 77) (TBof tbs_114 _ rfl) rfl ?_
          refine ev_iastore (pc1 := 78) (n := 168) (TBof tbs_114 _ rfl) rfl ltc_74 sh_74 H.1 ?_
          replace H := H.2
          refine ev_aload_n (pc1 := 79) rfl rfl (TBof tbs_114 _ rfl) rfl ?_
          refine ev_ldc2_w (pc1 := 82) (x := 4612811918334230528) rfl (TBof tbs_114 _ rfl) rfl ?_
          refine ev_callvV (pc1 := 85) (as := [.double 4612811918334230528]) (r := []) (TBof tbs_114 _ rfl) rfl (lnkof mo_114 ln_4_120) rfl na_110 ltc_73 (sh_73.trans (by rw [mo_110])) (Nat.le_of_ble_eq_true rfl) H (fun M12 h12 D12 H => ?_)
          refine ev_aload_n (pc1 := 86) rfl rfl (TBof tbs_114 _ rfl) rfl ?_
          refine ev_getP (pc1 := 89) (ci := 4) (k := 0) (a := 74) (TBof tbs_114 _ rfl) rfl (fldof mo_114 fl_4_7) ltc_73 sh_73 nk_4_0 fp_4_0 (by decide) pf_73_0 ?_
          refine ev_iload_n (pc1 := 90) rfl (TBof tbs_114 _ rfl) rfl ?_
          refine ev_callsI (pc1 := 93) (as := [.int v1]) (r := [.ref 74]) (TBof tbs_114 _ rfl) rfl (lnkof mo_114 ln_4_55) (Or.inl rfl) rfl na_86 (Nat.le_of_ble_eq_true rfl) H (fun x13 M13 h13 D13 H => ?_)
          refine ev_iconst (pc1 := 94) (x := 5) (by decide) (TBof tbs_114 _ rfl) rfl ?_
          refine ev_iadd (pc1 := 95) (TBof tbs_114 _ rfl) rfl ?_
          refine ev_iaload (pc1 := 96) (n := 168) (TBof tbs_114 _ rfl) rfl ltc_74 sh_74 H.1 ?_
          replace H := H.2
          exact ev_ireturn (TBof tbs_114 _ rfl) (retI_i rt_114) ⟨_, rfl, H⟩
        · replace H := H.2 c9
          refine ev_bipush (pc1 := 58) (x := (-4)) (by decide) (TBof tbs_114 _ rfl) rfl ?_
          exact ev_ireturn (TBof tbs_114 _ rfl) (retI_i rt_114) ⟨_, rfl, H⟩
      · replace H := H.2 c7
        refine ev_bipush (pc1 := 47) (x := (-5)) (by decide) (TBof tbs_114 _ rfl) rfl ?_
        exact ev_ireturn (TBof tbs_114 _ rfl) (retI_i rt_114) ⟨_, rfl, H⟩
    · replace H := H.2 c4
      refine ev_bipush (pc1 := 19) (x := (-4)) (by decide) (TBof tbs_114 _ rfl) rfl ?_
      exact ev_ireturn (TBof tbs_114 _ rfl) (retI_i rt_114) ⟨_, rfl, H⟩
  · replace H := H.2 c2
    refine ev_iconst (pc1 := 9) (x := (-1)) (by decide) (TBof tbs_114 _ rfl) rfl ?_
    exact ev_ireturn (TBof tbs_114 _ rfl) (retI_i rt_114) ⟨_, rfl, H⟩
set_option maxRecDepth 100000 in
theorem R_X4_handMany_0 {d : Nat} {M : Im} {h : Hm} {D : Dm} {Q : Int32 → Im → Hm → Dm → Prop} (H : EvI d nX4_handMany 4 [(0, .ref 73), (1, .int 0), (2, .int 0)] [] M h D Q) : EvI d nX4_handMany 0 [(0, .ref 73)] [] M h D Q := by
  refine ev_iconst (pc1 := 1) (x := 0) (by decide) (TBof tbs_115 _ rfl) rfl ?_
  refine ev_istore_n (pc1 := 2) (L1 := [(1, .int 0), (0, .ref 73)]) (by rw [ml_115]; decide) rfl (TBof tbs_115 _ rfl) rfl ?_
  refine ev_iconst (pc1 := 3) (x := 0) (by decide) (TBof tbs_115 _ rfl) rfl ?_
  refine ev_istore_n (pc1 := 4) (L1 := [(2, .int 0), (1, .int 0), (0, .ref 73)]) (by rw [ml_115]; decide) rfl (TBof tbs_115 _ rfl) rfl ?_
  exact ev_le [2, 1, 0] rfl rfl H
set_option maxRecDepth 100000 in
theorem R_X4_handMany_4 {d : Nat} {v1 v2 : Int32} {M : Im} {h : Hm} {D : Dm} {Q : Int32 → Im → Hm → Dm → Prop} (H : ((12 ≤ v2) → (Q v1 M h D)) ∧ (¬ (12 ≤ v2) → (CI d nX4_t [.int v2] M h D (fun x2 M2 h2 D2 => vp_in (x2 + 2) 168 ∧ (EvI d nX4_handMany 4 [(0, .ref 73), (1, .int (v1 + (M2 74 ((x2 + 2).toNatClampNeg)))), (2, .int (v2 + 1))] [] M2 h2 D2 Q))))) : EvI d nX4_handMany 4 [(0, .ref 73), (1, .int v1), (2, .int v2)] [] M h D Q := by
  refine ev_iload_n (pc1 := 5) rfl (TBof tbs_115 _ rfl) rfl ?_
  refine ev_bipush (pc1 := 7) (x := 12) (by decide) (TBof tbs_115 _ rfl) rfl ?_
  refine ev_icmp (pc1 := 10) (t := 30) (TBof tbs_115 _ rfl) (by decide) rfl (fun c1 => ?_) (fun c1 => ?_)
  · replace H := H.1 c1
    refine ev_iload_n (pc1 := 31) rfl (TBof tbs_115 _ rfl) rfl ?_
    exact ev_ireturn (TBof tbs_115 _ rfl) (retI_i rt_115) ⟨_, rfl, H⟩
  · replace H := H.2 c1
    refine ev_iload_n (pc1 := 11) rfl (TBof tbs_115 _ rfl) rfl ?_
    refine ev_aload_n (pc1 := 12) rfl rfl (TBof tbs_115 _ rfl) rfl ?_
    refine ev_getP (pc1 := 15) (ci := 4) (k := 0) (a := 74) (TBof tbs_115 _ rfl) rfl (fldof mo_115 fl_4_7) ltc_73 sh_73 nk_4_0 fp_4_0 (by decide) pf_73_0 ?_
    refine ev_iload_n (pc1 := 16) rfl (TBof tbs_115 _ rfl) rfl ?_
    refine ev_callsI (pc1 := 19) (as := [.int v2]) (r := [.ref 74, .int v1]) (TBof tbs_115 _ rfl) rfl (lnkof mo_115 ln_4_43) (Or.inl rfl) rfl na_85 (Nat.le_of_ble_eq_true rfl) H (fun x2 M2 h2 D2 H => ?_)
    refine ev_iconst (pc1 := 20) (x := 2) (by decide) (TBof tbs_115 _ rfl) rfl ?_
    refine ev_iadd (pc1 := 21) (TBof tbs_115 _ rfl) rfl ?_
    refine ev_iaload (pc1 := 22) (n := 168) (TBof tbs_115 _ rfl) rfl ltc_74 sh_74 H.1 ?_
    replace H := H.2
    refine ev_iadd (pc1 := 23) (TBof tbs_115 _ rfl) rfl ?_
    refine ev_istore_n (pc1 := 24) (L1 := [(1, .int (v1 + (M2 74 ((x2 + 2).toNatClampNeg)))), (0, .ref 73), (2, .int v2)]) (by rw [ml_115]; decide) rfl (TBof tbs_115 _ rfl) rfl ?_
    refine ev_iinc (pc1 := 27) (n := 2) (c := 1) (x := v2) (cc := 1) (L1 := [(2, .int (v2 + 1)), (1, .int (v1 + (M2 74 ((x2 + 2).toNatClampNeg)))), (0, .ref 73)]) rfl (by rw [ml_115]; decide) (by decide) rfl (TBof tbs_115 _ rfl) rfl ?_
    refine ev_goto (pc1 := 4) (TBof tbs_115 _ rfl) (by decide) ?_
    exact ev_le [2, 1, 0] rfl rfl H
set_option maxRecDepth 100000 in
theorem R_X4_take_0 {d : Nat} {v1 : Int32} {M : Im} {h : Hm} {D : Dm} {Q : Int32 → Im → Hm → Dm → Prop} (H : CI d nX4_in [.int v1, .int 0, .int 11] M h D (fun x1 M1 h1 D1 => ((¬ (x1 = 0)) → (CI d nX4_isGame [.ref 73] M1 h1 D1 (fun x3 M3 h3 D3 => ((¬ (x3 = 0)) → (CI d nX4_t [.int v1] M3 h3 D3 (fun x5 M5 h5 D5 => vp_in (x5 + 2) 168 ∧ (((¬ ((M5 74 ((x5 + 2).toNatClampNeg)) = 1)) → (CI d nX4_canTake [.ref 73, .int v1] M5 h5 D5 (fun x7 M7 h7 D7 => ((¬ (x7 = 0)) → (CV d nX4_record [.ref 73] M7 h7 D7 (fun M9 h9 D9 => CI d nX4_t [.int v1] M9 h9 D9 (fun x10 M10 h10 D10 => vp_in (x10 + 2) 168 ∧ (CV d nX4_step [.ref 73, .double 4598175219545276416] (up2 M10 74 ((x10 + 2).toNatClampNeg) 1) h10 D10 (fun M11 h11 D11 => CI d nX4_handMany [.ref 73] M11 h11 D11 (fun x12 M12 h12 D12 => Q x12 M12 h12 D12))))))) ∧ (¬ (¬ (x7 = 0)) → (Q (-4) M7 h7 D7))))) ∧ (¬ (¬ ((M5 74 ((x5 + 2).toNatClampNeg)) = 1)) → (Q (-5) M5 h5 D5)))))) ∧ (¬ (¬ (x3 = 0)) → (Q (-4) M3 h3 D3))))) ∧ (¬ (¬ (x1 = 0)) → (Q (-1) M1 h1 D1)))) : EvI d nX4_take 0 [(0, .ref 73), (1, .int v1)] [] M h D Q := by
  refine ev_iload_n (pc1 := 1) rfl (TBof tbs_116 _ rfl) rfl ?_
  refine ev_iconst (pc1 := 2) (x := 0) (by decide) (TBof tbs_116 _ rfl) rfl ?_
  refine ev_bipush (pc1 := 4) (x := 11) (by decide) (TBof tbs_116 _ rfl) rfl ?_
  refine ev_callsI (pc1 := 7) (as := [.int v1, .int 0, .int 11]) (r := []) (TBof tbs_116 _ rfl) rfl (lnkof mo_116 ln_4_51) (Or.inl rfl) rfl na_84 (Nat.le_of_ble_eq_true rfl) H (fun x1 M1 h1 D1 H => ?_)
  refine ev_if (pc1 := 10) (t := 12) (TBof tbs_116 _ rfl) (by decide) rfl (fun c2 => ?_) (fun c2 => ?_)
  · replace H := H.1 c2
    refine ev_aload_n (pc1 := 13) rfl rfl (TBof tbs_116 _ rfl) rfl ?_
    refine ev_callvI (pc1 := 16) (as := []) (r := []) (TBof tbs_116 _ rfl) rfl (lnkof mo_116 ln_4_62) rfl na_89 ltc_73 (sh_73.trans (by rw [mo_89])) (Nat.le_of_ble_eq_true rfl) H (fun x3 M3 h3 D3 H => ?_)
    refine ev_if (pc1 := 19) (t := 22) (TBof tbs_116 _ rfl) (by decide) rfl (fun c4 => ?_) (fun c4 => ?_)
    · replace H := H.1 c4
      refine ev_aload_n (pc1 := 23) rfl rfl (TBof tbs_116 _ rfl) rfl ?_
      refine ev_getP (pc1 := 26) (ci := 4) (k := 0) (a := 74) (TBof tbs_116 _ rfl) rfl (fldof mo_116 fl_4_7) ltc_73 sh_73 nk_4_0 fp_4_0 (by decide) pf_73_0 ?_
      refine ev_iload_n (pc1 := 27) rfl (TBof tbs_116 _ rfl) rfl ?_
      refine ev_callsI (pc1 := 30) (as := [.int v1]) (r := [.ref 74]) (TBof tbs_116 _ rfl) rfl (lnkof mo_116 ln_4_43) (Or.inl rfl) rfl na_85 (Nat.le_of_ble_eq_true rfl) H (fun x5 M5 h5 D5 H => ?_)
      refine ev_iconst (pc1 := 31) (x := 2) (by decide) (TBof tbs_116 _ rfl) rfl ?_
      refine ev_iadd (pc1 := 32) (TBof tbs_116 _ rfl) rfl ?_
      refine ev_iaload (pc1 := 33) (n := 168) (TBof tbs_116 _ rfl) rfl ltc_74 sh_74 H.1 ?_
      replace H := H.2
      refine ev_iconst (pc1 := 34) (x := 1) (by decide) (TBof tbs_116 _ rfl) rfl ?_
      refine ev_icmp (pc1 := 37) (t := 40) (TBof tbs_116 _ rfl) (by decide) rfl (fun c6 => ?_) (fun c6 => ?_)
      · replace H := H.1 c6
        refine ev_aload_n (pc1 := 41) rfl rfl (TBof tbs_116 _ rfl) rfl ?_
        refine ev_iload_n (pc1 := 42) rfl (TBof tbs_116 _ rfl) rfl ?_
        refine ev_callvI (pc1 := 45) (as := [.int v1]) (r := []) (TBof tbs_116 _ rfl) rfl (lnkof mo_116 ln_4_132) rfl na_109 ltc_73 (sh_73.trans (by rw [mo_109])) (Nat.le_of_ble_eq_true rfl) H (fun x7 M7 h7 D7 H => ?_)
        refine ev_if (pc1 := 48) (t := 51) (TBof tbs_116 _ rfl) (by decide) rfl (fun c8 => ?_) (fun c8 => ?_)
        · replace H := H.1 c8
          refine ev_aload_n (pc1 := 52) rfl rfl (TBof tbs_116 _ rfl) rfl ?_
          refine ev_callvV (pc1 := 55) (as := []) (r := []) (TBof tbs_116 _ rfl) rfl (lnkof mo_116 ln_4_66) rfl na_87 ltc_73 (sh_73.trans (by rw [mo_87])) (Nat.le_of_ble_eq_true rfl) H (fun M9 h9 D9 H => ?_)
          refine ev_aload_n (pc1 := 56) rfl rfl (TBof tbs_116 _ rfl) rfl ?_
          refine ev_getP (pc1 := 59) (ci := 4) (k := 0) (a := 74) (TBof tbs_116 _ rfl) rfl (fldof mo_116 fl_4_7) ltc_73 sh_73 nk_4_0 fp_4_0 (by decide) pf_73_0 ?_
          refine ev_iload_n (pc1 := 60) rfl (TBof tbs_116 _ rfl) rfl ?_
          refine ev_callsI (pc1 := 63) (as := [.int v1]) (r := [.ref 74]) (TBof tbs_116 _ rfl) rfl (lnkof mo_116 ln_4_43) (Or.inl rfl) rfl na_85 (Nat.le_of_ble_eq_true rfl) H (fun x10 M10 h10 D10 H => ?_)
          refine ev_iconst (pc1 := 64) (x := 2) (by decide) (TBof tbs_116 _ rfl) rfl ?_
          refine ev_iadd (pc1 := 65) (TBof tbs_116 _ rfl) rfl ?_
          refine ev_iconst (pc1 := 66) (x := 1) (by decide) (TBof tbs_116 _ rfl) rfl ?_
          refine ev_iastore (pc1 := 67) (n := 168) (TBof tbs_116 _ rfl) rfl ltc_74 sh_74 H.1 ?_
          replace H := H.2
          refine ev_aload_n (pc1 := 68) rfl rfl (TBof tbs_116 _ rfl) rfl ?_
          refine ev_ldc2_w (pc1 := 71) (x := 4598175219545276416) rfl (TBof tbs_116 _ rfl) rfl ?_
          refine ev_callvV (pc1 := 74) (as := [.double 4598175219545276416]) (r := []) (TBof tbs_116 _ rfl) rfl (lnkof mo_116 ln_4_120) rfl na_110 ltc_73 (sh_73.trans (by rw [mo_110])) (Nat.le_of_ble_eq_true rfl) H (fun M11 h11 D11 H => ?_)
          refine ev_aload_n (pc1 := 75) rfl rfl (TBof tbs_116 _ rfl) rfl ?_
          refine ev_callvI (pc1 := 78) (as := []) (r := []) (TBof tbs_116 _ rfl) rfl (lnkof mo_116 ln_4_137) rfl na_115 ltc_73 (sh_73.trans (by rw [mo_115])) (Nat.le_of_ble_eq_true rfl) H (fun x12 M12 h12 D12 H => ?_)
          exact ev_ireturn (TBof tbs_116 _ rfl) (retI_i rt_116) ⟨_, rfl, H⟩
        · replace H := H.2 c8
          refine ev_bipush (pc1 := 50) (x := (-4)) (by decide) (TBof tbs_116 _ rfl) rfl ?_
          exact ev_ireturn (TBof tbs_116 _ rfl) (retI_i rt_116) ⟨_, rfl, H⟩
      · replace H := H.2 c6
        refine ev_bipush (pc1 := 39) (x := (-5)) (by decide) (TBof tbs_116 _ rfl) rfl ?_
        exact ev_ireturn (TBof tbs_116 _ rfl) (retI_i rt_116) ⟨_, rfl, H⟩
    · replace H := H.2 c4
      refine ev_bipush (pc1 := 21) (x := (-4)) (by decide) (TBof tbs_116 _ rfl) rfl ?_
      exact ev_ireturn (TBof tbs_116 _ rfl) (retI_i rt_116) ⟨_, rfl, H⟩
  · replace H := H.2 c2
    refine ev_iconst (pc1 := 11) (x := (-1)) (by decide) (TBof tbs_116 _ rfl) rfl ?_
    exact ev_ireturn (TBof tbs_116 _ rfl) (retI_i rt_116) ⟨_, rfl, H⟩
set_option maxRecDepth 100000 in
theorem R_X4_seal_0 {d : Nat} {v1 : Int32} {M : Im} {h : Hm} {D : Dm} {Q : Int32 → Im → Hm → Dm → Prop} (H : CI d nX4_isDrawer [.ref 73, .int v1] M h D (fun x1 M1 h1 D1 => ((¬ (x1 = 0)) → (CI d nX4_isGame [.ref 73] M1 h1 D1 (fun x3 M3 h3 D3 => ((¬ (x3 = 0)) → (CI d nX4_d [.int v1] M3 h3 D3 (fun x5 M5 h5 D5 => vp_in (x5 + 7) 168 ∧ (((¬ ((M5 74 ((x5 + 7).toNatClampNeg)) = 0)) → (CI d nX4_d [.int v1] M5 h5 D5 (fun x7 M7 h7 D7 => vp_in (x7 + 6) 168 ∧ ((((M7 74 ((x7 + 6).toNatClampNeg)) = 1) → (Q (-4) M7 h7 D7)) ∧ (¬ ((M7 74 ((x7 + 6).toNatClampNeg)) = 1) → (CI d nX4_isReached [.ref 73, .int v1] M7 h7 D7 (fun x9 M9 h9 D9 => ((x9 = 0) → (Q (-4) M9 h9 D9)) ∧ (¬ (x9 = 0) → (CI d nX4_t [.int 11] M9 h9 D9 (fun x11 M11 h11 D11 => vp_in (x11 + 2) 168 ∧ (((¬ ((M11 74 ((x11 + 2).toNatClampNeg)) = 0)) → (CV d nX4_record [.ref 73] M11 h11 D11 (fun M13 h13 D13 => CI d nX4_d [.int v1] M13 h13 D13 (fun x14 M14 h14 D14 => vp_in (x14 + 7) 168 ∧ (CV d nX4_step [.ref 73, .double 4613937818241073152] (up2 M14 74 ((x14 + 7).toNatClampNeg) 0) h14 D14 (fun M15 h15 D15 => CI d nX4_sumOf [.ref 73, .int 7] M15 h15 D15 (fun x16 M16 h16 D16 => Q x16 M16 h16 D16))))))) ∧ (¬ (¬ ((M11 74 ((x11 + 2).toNatClampNeg)) = 0)) → (Q (-4) M11 h11 D11))))))))))))) ∧ (¬ (¬ ((M5 74 ((x5 + 7).toNatClampNeg)) = 0)) → (Q (-5) M5 h5 D5)))))) ∧ (¬ (¬ (x3 = 0)) → (Q (-4) M3 h3 D3))))) ∧ (¬ (¬ (x1 = 0)) → (Q (-1) M1 h1 D1)))) : EvI d nX4_seal 0 [(0, .ref 73), (1, .int v1)] [] M h D Q := by
  refine ev_aload_n (pc1 := 1) rfl rfl (TBof tbs_117 _ rfl) rfl ?_
  refine ev_iload_n (pc1 := 2) rfl (TBof tbs_117 _ rfl) rfl ?_
  refine ev_callvI (pc1 := 5) (as := [.int v1]) (r := []) (TBof tbs_117 _ rfl) rfl (lnkof mo_117 ln_4_58) rfl na_88 ltc_73 (sh_73.trans (by rw [mo_88])) (Nat.le_of_ble_eq_true rfl) H (fun x1 M1 h1 D1 H => ?_)
  refine ev_if (pc1 := 8) (t := 10) (TBof tbs_117 _ rfl) (by decide) rfl (fun c2 => ?_) (fun c2 => ?_)
  · replace H := H.1 c2
    refine ev_aload_n (pc1 := 11) rfl rfl (TBof tbs_117 _ rfl) rfl ?_
    refine ev_callvI (pc1 := 14) (as := []) (r := []) (TBof tbs_117 _ rfl) rfl (lnkof mo_117 ln_4_62) rfl na_89 ltc_73 (sh_73.trans (by rw [mo_89])) (Nat.le_of_ble_eq_true rfl) H (fun x3 M3 h3 D3 H => ?_)
    refine ev_if (pc1 := 17) (t := 20) (TBof tbs_117 _ rfl) (by decide) rfl (fun c4 => ?_) (fun c4 => ?_)
    · replace H := H.1 c4
      refine ev_aload_n (pc1 := 21) rfl rfl (TBof tbs_117 _ rfl) rfl ?_
      refine ev_getP (pc1 := 24) (ci := 4) (k := 0) (a := 74) (TBof tbs_117 _ rfl) rfl (fldof mo_117 fl_4_7) ltc_73 sh_73 nk_4_0 fp_4_0 (by decide) pf_73_0 ?_
      refine ev_iload_n (pc1 := 25) rfl (TBof tbs_117 _ rfl) rfl ?_
      refine ev_callsI (pc1 := 28) (as := [.int v1]) (r := [.ref 74]) (TBof tbs_117 _ rfl) rfl (lnkof mo_117 ln_4_55) (Or.inl rfl) rfl na_86 (Nat.le_of_ble_eq_true rfl) H (fun x5 M5 h5 D5 H => ?_)
      refine ev_bipush (pc1 := 30) (x := 7) (by decide) (TBof tbs_117 _ rfl) rfl ?_
      refine ev_iadd (pc1 := 31) (TBof tbs_117 _ rfl) rfl ?_
      refine ev_iaload (pc1 := 32) (n := 168) (TBof tbs_117 _ rfl) rfl ltc_74 sh_74 H.1 ?_
      replace H := H.2
      refine ev_if (pc1 := 35) (t := 38) (TBof tbs_117 _ rfl) (by decide) rfl (fun c6 => ?_) (fun c6 => ?_)
      · replace H := H.1 c6
        refine ev_aload_n (pc1 := 39) rfl rfl (TBof tbs_117 _ rfl) rfl ?_
        refine ev_getP (pc1 := 42) (ci := 4) (k := 0) (a := 74) (TBof tbs_117 _ rfl) rfl (fldof mo_117 fl_4_7) ltc_73 sh_73 nk_4_0 fp_4_0 (by decide) pf_73_0 ?_
        refine ev_iload_n (pc1 := 43) rfl (TBof tbs_117 _ rfl) rfl ?_
        refine ev_callsI (pc1 := 46) (as := [.int v1]) (r := [.ref 74]) (TBof tbs_117 _ rfl) rfl (lnkof mo_117 ln_4_55) (Or.inl rfl) rfl na_86 (Nat.le_of_ble_eq_true rfl) H (fun x7 M7 h7 D7 H => ?_)
        refine ev_bipush (pc1 := 48) (x := 6) (by decide) (TBof tbs_117 _ rfl) rfl ?_
        refine ev_iadd (pc1 := 49) (TBof tbs_117 _ rfl) rfl ?_
        refine ev_iaload (pc1 := 50) (n := 168) (TBof tbs_117 _ rfl) rfl ltc_74 sh_74 H.1 ?_
        replace H := H.2
        refine ev_iconst (pc1 := 51) (x := 1) (by decide) (TBof tbs_117 _ rfl) rfl ?_
        refine ev_icmp (pc1 := 54) (t := 77) (TBof tbs_117 _ rfl) (by decide) rfl (fun c8 => ?_) (fun c8 => ?_)
        · replace H := H.1 c8
          refine ev_bipush (pc1 := 79) (x := (-4)) (by decide) (TBof tbs_117 _ rfl) rfl ?_
          exact ev_ireturn (TBof tbs_117 _ rfl) (retI_i rt_117) ⟨_, rfl, H⟩
        · replace H := H.2 c8
          refine ev_aload_n (pc1 := 55) rfl rfl (TBof tbs_117 _ rfl) rfl ?_
          refine ev_iload_n (pc1 := 56) rfl (TBof tbs_117 _ rfl) rfl ?_
          refine ev_callvI (pc1 := 59) (as := [.int v1]) (r := []) (TBof tbs_117 _ rfl) rfl (lnkof mo_117 ln_4_108) rfl na_106 ltc_73 (sh_73.trans (by rw [mo_106])) (Nat.le_of_ble_eq_true rfl) H (fun x9 M9 h9 D9 H => ?_)
          refine ev_if (pc1 := 62) (t := 77) (TBof tbs_117 _ rfl) (by decide) rfl (fun c10 => ?_) (fun c10 => ?_)
          · replace H := H.1 c10
            refine ev_bipush (pc1 := 79) (x := (-4)) (by decide) (TBof tbs_117 _ rfl) rfl ?_
            exact ev_ireturn (TBof tbs_117 _ rfl) (retI_i rt_117) ⟨_, rfl, H⟩
          · replace H := H.2 c10
            refine ev_aload_n (pc1 := 63) rfl rfl (TBof tbs_117 _ rfl) rfl ?_
            refine ev_getP (pc1 := 66) (ci := 4) (k := 0) (a := 74) (TBof tbs_117 _ rfl) rfl (fldof mo_117 fl_4_7) ltc_73 sh_73 nk_4_0 fp_4_0 (by decide) pf_73_0 ?_
            refine ev_bipush (pc1 := 68) (x := 11) (by decide) (TBof tbs_117 _ rfl) rfl ?_
            refine ev_callsI (pc1 := 71) (as := [.int 11]) (r := [.ref 74]) (TBof tbs_117 _ rfl) rfl (lnkof mo_117 ln_4_43) (Or.inl rfl) rfl na_85 (Nat.le_of_ble_eq_true rfl) H (fun x11 M11 h11 D11 H => ?_)
            refine ev_iconst (pc1 := 72) (x := 2) (by decide) (TBof tbs_117 _ rfl) rfl ?_
            refine ev_iadd (pc1 := 73) (TBof tbs_117 _ rfl) rfl ?_
            refine ev_iaload (pc1 := 74) (n := 168) (TBof tbs_117 _ rfl) rfl ltc_74 sh_74 H.1 ?_
            replace H := H.2
            refine ev_if (pc1 := 77) (t := 80) (TBof tbs_117 _ rfl) (by decide) rfl (fun c12 => ?_) (fun c12 => ?_)
            · replace H := H.1 c12
              refine ev_aload_n (pc1 := 81) rfl rfl (TBof tbs_117 _ rfl) rfl ?_
              refine ev_callvV (pc1 := 84) (as := []) (r := []) (TBof tbs_117 _ rfl) rfl (lnkof mo_117 ln_4_66) rfl na_87 ltc_73 (sh_73.trans (by rw [mo_87])) (Nat.le_of_ble_eq_true rfl) H (fun M13 h13 D13 H => ?_)
              refine ev_aload_n (pc1 := 85) rfl rfl (TBof tbs_117 _ rfl) rfl ?_
              refine ev_getP (pc1 := 88) (ci := 4) (k := 0) (a := 74) (TBof tbs_117 _ rfl) rfl (fldof mo_117 fl_4_7) ltc_73 sh_73 nk_4_0 fp_4_0 (by decide) pf_73_0 ?_
              refine ev_iload_n (pc1 := 89) rfl (TBof tbs_117 _ rfl) rfl ?_
              refine ev_callsI (pc1 := 92) (as := [.int v1]) (r := [.ref 74]) (TBof tbs_117 _ rfl) rfl (lnkof mo_117 ln_4_55) (Or.inl rfl) rfl na_86 (Nat.le_of_ble_eq_true rfl) H (fun x14 M14 h14 D14 H => ?_)
              refine ev_bipush (pc1 := 94) (x := 7) (by decide) (TBof tbs_117 _ rfl) rfl ?_
              refine ev_iadd (pc1 := 95) (TBof tbs_117 _ rfl) rfl ?_
              refine ev_iconst (pc1 := 96) (x := 0) (by decide) (TBof tbs_117 _ rfl) rfl ?_
              refine ev_iastore (pc1 := 97) (n := 168) (TBof tbs_117 _ rfl) rfl ltc_74 sh_74 H.1 ?_
              replace H := H.2
              refine ev_aload_n (pc1 := 98) rfl rfl (TBof tbs_117 _ rfl) rfl ?_
              refine ev_ldc2_w (pc1 := 101) (x := 4613937818241073152) rfl (TBof tbs_117 _ rfl) rfl ?_
              refine ev_callvV (pc1 := 104) (as := [.double 4613937818241073152]) (r := []) (TBof tbs_117 _ rfl) rfl (lnkof mo_117 ln_4_120) rfl na_110 ltc_73 (sh_73.trans (by rw [mo_110])) (Nat.le_of_ble_eq_true rfl) H (fun M15 h15 D15 H => ?_)
              refine ev_aload_n (pc1 := 105) rfl rfl (TBof tbs_117 _ rfl) rfl ?_
              refine ev_bipush (pc1 := 107) (x := 7) (by decide) (TBof tbs_117 _ rfl) rfl ?_
              refine ev_callvI (pc1 := 110) (as := [.int 7]) (r := []) (TBof tbs_117 _ rfl) rfl (lnkof mo_117 ln_4_124) rfl na_90 ltc_73 (sh_73.trans (by rw [mo_90])) (Nat.le_of_ble_eq_true rfl) H (fun x16 M16 h16 D16 H => ?_)
              exact ev_ireturn (TBof tbs_117 _ rfl) (retI_i rt_117) ⟨_, rfl, H⟩
            · replace H := H.2 c12
              refine ev_bipush (pc1 := 79) (x := (-4)) (by decide) (TBof tbs_117 _ rfl) rfl ?_
              exact ev_ireturn (TBof tbs_117 _ rfl) (retI_i rt_117) ⟨_, rfl, H⟩
      · replace H := H.2 c6
        refine ev_bipush (pc1 := 37) (x := (-5)) (by decide) (TBof tbs_117 _ rfl) rfl ?_
        exact ev_ireturn (TBof tbs_117 _ rfl) (retI_i rt_117) ⟨_, rfl, H⟩
    · replace H := H.2 c4
      refine ev_bipush (pc1 := 19) (x := (-4)) (by decide) (TBof tbs_117 _ rfl) rfl ?_
      exact ev_ireturn (TBof tbs_117 _ rfl) (retI_i rt_117) ⟨_, rfl, H⟩
  · replace H := H.2 c2
    refine ev_iconst (pc1 := 9) (x := (-1)) (by decide) (TBof tbs_117 _ rfl) rfl ?_
    exact ev_ireturn (TBof tbs_117 _ rfl) (retI_i rt_117) ⟨_, rfl, H⟩
set_option maxRecDepth 100000 in
theorem R_X4_type_0 {d : Nat} {v1 : Int32} {M : Im} {h : Hm} {D : Dm} {Q : Int32 → Im → Hm → Dm → Prop} (H : ((¬ ((M 73 10) = 60)) → (vp_in (M 73 10) 60 ∧ (∀ M2 : Im, M2 = up2 (up2 M 83 ((M 73 10).toNatClampNeg) v1.toUInt32.toUInt16.toUInt32.toInt32) 73 10 (((up2 M 83 ((M 73 10).toNatClampNeg) v1.toUInt32.toUInt16.toUInt32.toInt32) 73 10) + 1) → (Q (M2 73 10) M2 h D)))) ∧ (¬ (¬ ((M 73 10) = 60)) → (Q (-3) M h D))) : EvI d nX4_type 0 [(0, .ref 73), (1, .int v1)] [] M h D Q := by
  refine ev_aload_n (pc1 := 1) rfl rfl (TBof tbs_118 _ rfl) rfl ?_
  refine ev_getI (pc1 := 4) (ci := 4) (k := 10) (TBof tbs_118 _ rfl) rfl (fldof mo_118 fl_4_73) ltc_73 sh_73 nk_4_10 fi_4_10 ?_
  refine ev_bipush (pc1 := 6) (x := 60) (by decide) (TBof tbs_118 _ rfl) rfl ?_
  refine ev_icmp (pc1 := 9) (t := 12) (TBof tbs_118 _ rfl) (by decide) rfl (fun c1 => ?_) (fun c1 => ?_)
  · replace H := H.1 c1
    refine ev_aload_n (pc1 := 13) rfl rfl (TBof tbs_118 _ rfl) rfl ?_
    refine ev_getP (pc1 := 16) (ci := 4) (k := 9) (a := 83) (TBof tbs_118 _ rfl) rfl (fldof mo_118 fl_4_39) ltc_73 sh_73 nk_4_9 fp_4_9 (by decide) pf_73_9 ?_
    refine ev_aload_n (pc1 := 17) rfl rfl (TBof tbs_118 _ rfl) rfl ?_
    refine ev_getI (pc1 := 20) (ci := 4) (k := 10) (TBof tbs_118 _ rfl) rfl (fldof mo_118 fl_4_73) ltc_73 sh_73 nk_4_10 fi_4_10 ?_
    refine ev_iload_n (pc1 := 21) rfl (TBof tbs_118 _ rfl) rfl ?_
    refine ev_castore (pc1 := 22) (n := 60) (TBof tbs_118 _ rfl) rfl ltc_83 sh_83 H.1 ?_
    replace H := H.2
    refine ev_aload_n (pc1 := 23) rfl rfl (TBof tbs_118 _ rfl) rfl ?_
    refine ev_dup (pc1 := 24) rfl (TBof tbs_118 _ rfl) rfl ?_
    refine ev_getI (pc1 := 27) (ci := 4) (k := 10) (TBof tbs_118 _ rfl) rfl (fldof mo_118 fl_4_73) ltc_73 sh_73 nk_4_10 fi_4_10 ?_
    refine ev_iconst (pc1 := 28) (x := 1) (by decide) (TBof tbs_118 _ rfl) rfl ?_
    refine ev_iadd (pc1 := 29) (TBof tbs_118 _ rfl) rfl ?_
    refine ev_putI (pc1 := 32) (ci := 4) (k := 10) (TBof tbs_118 _ rfl) rfl (fldof mo_118 fl_4_73) ltc_73 sh_73 nk_4_10 rfl rfl ?_
    generalize e2 : up2 (up2 M 83 ((M 73 10).toNatClampNeg) v1.toUInt32.toUInt16.toUInt32.toInt32) 73 10 (((up2 M 83 ((M 73 10).toNatClampNeg) v1.toUInt32.toUInt16.toUInt32.toInt32) 73 10) + 1) = M2
    replace H := H M2 e2.symm
    refine ev_aload_n (pc1 := 33) rfl rfl (TBof tbs_118 _ rfl) rfl ?_
    refine ev_getI (pc1 := 36) (ci := 4) (k := 10) (TBof tbs_118 _ rfl) rfl (fldof mo_118 fl_4_73) ltc_73 sh_73 nk_4_10 fi_4_10 ?_
    exact ev_ireturn (TBof tbs_118 _ rfl) (retI_i rt_118) ⟨_, rfl, H⟩
  · replace H := H.2 c1
    refine ev_bipush (pc1 := 11) (x := (-3)) (by decide) (TBof tbs_118 _ rfl) rfl ?_
    exact ev_ireturn (TBof tbs_118 _ rfl) (retI_i rt_118) ⟨_, rfl, H⟩
set_option maxRecDepth 100000 in
theorem R_X4_clearText_0 {d : Nat} {M : Im} {h : Hm} {D : Dm} {Q : Int32 → Im → Hm → Dm → Prop} (H : Q (M 73 10) (up2 M 73 10 0) h D) : EvI d nX4_clearText 0 [(0, .ref 73)] [] M h D Q := by
  refine ev_aload_n (pc1 := 1) rfl rfl (TBof tbs_119 _ rfl) rfl ?_
  refine ev_getI (pc1 := 4) (ci := 4) (k := 10) (TBof tbs_119 _ rfl) rfl (fldof mo_119 fl_4_73) ltc_73 sh_73 nk_4_10 fi_4_10 ?_
  refine ev_istore_n (pc1 := 5) (L1 := [(1, .int (M 73 10)), (0, .ref 73)]) (by rw [ml_119]; decide) rfl (TBof tbs_119 _ rfl) rfl ?_
  refine ev_aload_n (pc1 := 6) rfl rfl (TBof tbs_119 _ rfl) rfl ?_
  refine ev_iconst (pc1 := 7) (x := 0) (by decide) (TBof tbs_119 _ rfl) rfl ?_
  refine ev_putI (pc1 := 10) (ci := 4) (k := 10) (TBof tbs_119 _ rfl) rfl (fldof mo_119 fl_4_73) ltc_73 sh_73 nk_4_10 rfl rfl ?_
  refine ev_iload_n (pc1 := 11) rfl (TBof tbs_119 _ rfl) rfl ?_
  exact ev_ireturn (TBof tbs_119 _ rfl) (retI_i rt_119) ⟨_, rfl, H⟩
set_option maxRecDepth 100000 in
theorem R_X4_undo_0 {d : Nat} {M : Im} {h : Hm} {D : Dm} {Q : Int32 → Im → Hm → Dm → Prop} (H : ((¬ ((M 73 11) = 0)) → (EvI d nX4_undo 22 [(0, .ref 73), (1, .int 0)] [] (up2 M 73 11 ((M 73 11) - 1)) h D Q)) ∧ (¬ (¬ ((M 73 11) = 0)) → (Q (-5) M h D))) : EvI d nX4_undo 0 [(0, .ref 73)] [] M h D Q := by
  refine ev_aload_n (pc1 := 1) rfl rfl (TBof tbs_120 _ rfl) rfl ?_
  refine ev_getI (pc1 := 4) (ci := 4) (k := 11) (TBof tbs_120 _ rfl) rfl (fldof mo_120 fl_4_47) ltc_73 sh_73 nk_4_11 fi_4_11 ?_
  refine ev_if (pc1 := 7) (t := 10) (TBof tbs_120 _ rfl) (by decide) rfl (fun c1 => ?_) (fun c1 => ?_)
  · replace H := H.1 c1
    refine ev_aload_n (pc1 := 11) rfl rfl (TBof tbs_120 _ rfl) rfl ?_
    refine ev_dup (pc1 := 12) rfl (TBof tbs_120 _ rfl) rfl ?_
    refine ev_getI (pc1 := 15) (ci := 4) (k := 11) (TBof tbs_120 _ rfl) rfl (fldof mo_120 fl_4_47) ltc_73 sh_73 nk_4_11 fi_4_11 ?_
    refine ev_iconst (pc1 := 16) (x := 1) (by decide) (TBof tbs_120 _ rfl) rfl ?_
    refine ev_isub (pc1 := 17) (TBof tbs_120 _ rfl) rfl ?_
    refine ev_putI (pc1 := 20) (ci := 4) (k := 11) (TBof tbs_120 _ rfl) rfl (fldof mo_120 fl_4_47) ltc_73 sh_73 nk_4_11 rfl rfl ?_
    refine ev_iconst (pc1 := 21) (x := 0) (by decide) (TBof tbs_120 _ rfl) rfl ?_
    refine ev_istore_n (pc1 := 22) (L1 := [(1, .int 0), (0, .ref 73)]) (by rw [ml_120]; decide) rfl (TBof tbs_120 _ rfl) rfl ?_
    exact ev_le [1, 0] rfl rfl H
  · replace H := H.2 c1
    refine ev_bipush (pc1 := 9) (x := (-5)) (by decide) (TBof tbs_120 _ rfl) rfl ?_
    exact ev_ireturn (TBof tbs_120 _ rfl) (retI_i rt_120) ⟨_, rfl, H⟩
set_option maxRecDepth 100000 in
theorem R_X4_undo_22 {d : Nat} {v1 : Int32} {M : Im} {h : Hm} {D : Dm} {Q : Int32 → Im → Hm → Dm → Prop} (H : ((168 ≤ v1) → (vp_in (1 + (M 73 11)) 6 ∧ (vp_in 0 6 ∧ (Q (M 73 11) M h (up2 D 77 ((0 : Int32).toNatClampNeg) (D 77 ((1 + (M 73 11)).toNatClampNeg))))))) ∧ (¬ (168 ≤ v1) → (vp_in ((168 * (M 73 11)) + v1) 672 ∧ (vp_in v1 168 ∧ (EvI d nX4_undo 22 [(0, .ref 73), (1, .int (v1 + 1))] [] (up2 M 74 (v1.toNatClampNeg) (M 75 (((168 * (M 73 11)) + v1).toNatClampNeg))) h D Q))))) : EvI d nX4_undo 22 [(0, .ref 73), (1, .int v1)] [] M h D Q := by
  refine ev_iload_n (pc1 := 23) rfl (TBof tbs_120 _ rfl) rfl ?_
  refine ev_sipush (pc1 := 26) (x := 168) (by decide) (TBof tbs_120 _ rfl) rfl ?_
  refine ev_icmp (pc1 := 29) (t := 56) (TBof tbs_120 _ rfl) (by decide) rfl (fun c1 => ?_) (fun c1 => ?_)
  · replace H := H.1 c1
    refine ev_aload_n (pc1 := 57) rfl rfl (TBof tbs_120 _ rfl) rfl ?_
    refine ev_getP (pc1 := 60) (ci := 4) (k := 3) (a := 77) (TBof tbs_120 _ rfl) rfl (fldof mo_120 fl_4_19) ltc_73 sh_73 nk_4_3 fp_4_3 (by decide) pf_73_3 ?_
    refine ev_iconst (pc1 := 61) (x := 0) (by decide) (TBof tbs_120 _ rfl) rfl ?_
    refine ev_aload_n (pc1 := 62) rfl rfl (TBof tbs_120 _ rfl) rfl ?_
    refine ev_getP (pc1 := 65) (ci := 4) (k := 3) (a := 77) (TBof tbs_120 _ rfl) rfl (fldof mo_120 fl_4_19) ltc_73 sh_73 nk_4_3 fp_4_3 (by decide) pf_73_3 ?_
    refine ev_iconst (pc1 := 66) (x := 1) (by decide) (TBof tbs_120 _ rfl) rfl ?_
    refine ev_aload_n (pc1 := 67) rfl rfl (TBof tbs_120 _ rfl) rfl ?_
    refine ev_getI (pc1 := 70) (ci := 4) (k := 11) (TBof tbs_120 _ rfl) rfl (fldof mo_120 fl_4_47) ltc_73 sh_73 nk_4_11 fi_4_11 ?_
    refine ev_iadd (pc1 := 71) (TBof tbs_120 _ rfl) rfl ?_
    refine ev_daload (pc1 := 72) (n := 6) (TBof tbs_120 _ rfl) rfl ltc_77 sh_77 H.1 ?_
    replace H := H.2
    refine ev_dastore (pc1 := 73) (n := 6) (TBof tbs_120 _ rfl) rfl ltc_77 sh_77 H.1 ?_
    replace H := H.2
    refine ev_aload_n (pc1 := 74) rfl rfl (TBof tbs_120 _ rfl) rfl ?_
    refine ev_getI (pc1 := 77) (ci := 4) (k := 11) (TBof tbs_120 _ rfl) rfl (fldof mo_120 fl_4_47) ltc_73 sh_73 nk_4_11 fi_4_11 ?_
    exact ev_ireturn (TBof tbs_120 _ rfl) (retI_i rt_120) ⟨_, rfl, H⟩
  · replace H := H.2 c1
    refine ev_aload_n (pc1 := 30) rfl rfl (TBof tbs_120 _ rfl) rfl ?_
    refine ev_getP (pc1 := 33) (ci := 4) (k := 0) (a := 74) (TBof tbs_120 _ rfl) rfl (fldof mo_120 fl_4_7) ltc_73 sh_73 nk_4_0 fp_4_0 (by decide) pf_73_0 ?_
    refine ev_iload_n (pc1 := 34) rfl (TBof tbs_120 _ rfl) rfl ?_
    refine ev_aload_n (pc1 := 35) rfl rfl (TBof tbs_120 _ rfl) rfl ?_
    refine ev_getP (pc1 := 38) (ci := 4) (k := 1) (a := 75) (TBof tbs_120 _ rfl) rfl (fldof mo_120 fl_4_13) ltc_73 sh_73 nk_4_1 fp_4_1 (by decide) pf_73_1 ?_
    refine ev_sipush (pc1 := 41) (x := 168) (by decide) (TBof tbs_120 _ rfl) rfl ?_
    refine ev_aload_n (pc1 := 42) rfl rfl (TBof tbs_120 _ rfl) rfl ?_
    refine ev_getI (pc1 := 45) (ci := 4) (k := 11) (TBof tbs_120 _ rfl) rfl (fldof mo_120 fl_4_47) ltc_73 sh_73 nk_4_11 fi_4_11 ?_
    refine ev_imul (pc1 := 46) (TBof tbs_120 _ rfl) rfl ?_
    refine ev_iload_n (pc1 := 47) rfl (TBof tbs_120 _ rfl) rfl ?_
    refine ev_iadd (pc1 := 48) (TBof tbs_120 _ rfl) rfl ?_
    refine ev_iaload (pc1 := 49) (n := 672) (TBof tbs_120 _ rfl) rfl ltc_75 sh_75 H.1 ?_
    replace H := H.2
    refine ev_iastore (pc1 := 50) (n := 168) (TBof tbs_120 _ rfl) rfl ltc_74 sh_74 H.1 ?_
    replace H := H.2
    refine ev_iinc (pc1 := 53) (n := 1) (c := 1) (x := v1) (cc := 1) (L1 := [(1, .int (v1 + 1)), (0, .ref 73)]) rfl (by rw [ml_120]; decide) (by decide) rfl (TBof tbs_120 _ rfl) rfl ?_
    refine ev_goto (pc1 := 22) (TBof tbs_120 _ rfl) (by decide) ?_
    exact ev_le [1, 0] rfl rfl H
set_option maxRecDepth 100000 in
theorem R_X4_keep_0 {d : Nat} {M : Im} {h : Hm} {D : Dm} {Q : Int32 → Im → Hm → Dm → Prop} (H : EvI d nX4_keep 2 [(0, .ref 73), (1, .int 0)] [] M h D Q) : EvI d nX4_keep 0 [(0, .ref 73)] [] M h D Q := by
  refine ev_iconst (pc1 := 1) (x := 0) (by decide) (TBof tbs_121 _ rfl) rfl ?_
  refine ev_istore_n (pc1 := 2) (L1 := [(1, .int 0), (0, .ref 73)]) (by rw [ml_121]; decide) rfl (TBof tbs_121 _ rfl) rfl ?_
  exact ev_le [1, 0] rfl rfl H
set_option maxRecDepth 100000 in
theorem R_X4_keep_2 {d : Nat} {v1 : Int32} {M : Im} {h : Hm} {D : Dm} {Q : Int32 → Im → Hm → Dm → Prop} (H : ((168 ≤ v1) → (vp_in 0 6 ∧ (vp_in 5 6 ∧ (vp_in 0 168 ∧ (Q ((up2 M 73 12 1) 74 ((0 : Int32).toNatClampNeg)) (up2 M 73 12 1) h (up2 D 77 ((5 : Int32).toNatClampNeg) (D 77 ((0 : Int32).toNatClampNeg)))))))) ∧ (¬ (168 ≤ v1) → (vp_in v1 168 ∧ (vp_in v1 168 ∧ (EvI d nX4_keep 2 [(0, .ref 73), (1, .int (v1 + 1))] [] (up2 M 76 (v1.toNatClampNeg) (M 74 (v1.toNatClampNeg))) h D Q))))) : EvI d nX4_keep 2 [(0, .ref 73), (1, .int v1)] [] M h D Q := by
  refine ev_iload_n (pc1 := 3) rfl (TBof tbs_121 _ rfl) rfl ?_
  refine ev_sipush (pc1 := 6) (x := 168) (by decide) (TBof tbs_121 _ rfl) rfl ?_
  refine ev_icmp (pc1 := 9) (t := 27) (TBof tbs_121 _ rfl) (by decide) rfl (fun c1 => ?_) (fun c1 => ?_)
  · replace H := H.1 c1
    refine ev_aload_n (pc1 := 28) rfl rfl (TBof tbs_121 _ rfl) rfl ?_
    refine ev_getP (pc1 := 31) (ci := 4) (k := 3) (a := 77) (TBof tbs_121 _ rfl) rfl (fldof mo_121 fl_4_19) ltc_73 sh_73 nk_4_3 fp_4_3 (by decide) pf_73_3 ?_
    refine ev_iconst (pc1 := 32) (x := 5) (by decide) (TBof tbs_121 _ rfl) rfl ?_
    refine ev_aload_n (pc1 := 33) rfl rfl (TBof tbs_121 _ rfl) rfl ?_
    refine ev_getP (pc1 := 36) (ci := 4) (k := 3) (a := 77) (TBof tbs_121 _ rfl) rfl (fldof mo_121 fl_4_19) ltc_73 sh_73 nk_4_3 fp_4_3 (by decide) pf_73_3 ?_
    refine ev_iconst (pc1 := 37) (x := 0) (by decide) (TBof tbs_121 _ rfl) rfl ?_
    refine ev_daload (pc1 := 38) (n := 6) (TBof tbs_121 _ rfl) rfl ltc_77 sh_77 H.1 ?_
    replace H := H.2
    refine ev_dastore (pc1 := 39) (n := 6) (TBof tbs_121 _ rfl) rfl ltc_77 sh_77 H.1 ?_
    replace H := H.2
    refine ev_aload_n (pc1 := 40) rfl rfl (TBof tbs_121 _ rfl) rfl ?_
    refine ev_iconst (pc1 := 41) (x := 1) (by decide) (TBof tbs_121 _ rfl) rfl ?_
    refine ev_putZ (pc1 := 44) (ci := 4) (k := 12) (TBof tbs_121 _ rfl) rfl (fldof mo_121 fl_4_142) ltc_73 sh_73 nk_4_12 rfl rfl (Or.inr rfl) ?_
    refine ev_aload_n (pc1 := 45) rfl rfl (TBof tbs_121 _ rfl) rfl ?_
    refine ev_getP (pc1 := 48) (ci := 4) (k := 0) (a := 74) (TBof tbs_121 _ rfl) rfl (fldof mo_121 fl_4_7) ltc_73 sh_73 nk_4_0 fp_4_0 (by decide) pf_73_0 ?_
    refine ev_iconst (pc1 := 49) (x := 0) (by decide) (TBof tbs_121 _ rfl) rfl ?_
    refine ev_iaload (pc1 := 50) (n := 168) (TBof tbs_121 _ rfl) rfl ltc_74 sh_74 H.1 ?_
    replace H := H.2
    exact ev_ireturn (TBof tbs_121 _ rfl) (retI_i rt_121) ⟨_, rfl, H⟩
  · replace H := H.2 c1
    refine ev_aload_n (pc1 := 10) rfl rfl (TBof tbs_121 _ rfl) rfl ?_
    refine ev_getP (pc1 := 13) (ci := 4) (k := 2) (a := 76) (TBof tbs_121 _ rfl) rfl (fldof mo_121 fl_4_16) ltc_73 sh_73 nk_4_2 fp_4_2 (by decide) pf_73_2 ?_
    refine ev_iload_n (pc1 := 14) rfl (TBof tbs_121 _ rfl) rfl ?_
    refine ev_aload_n (pc1 := 15) rfl rfl (TBof tbs_121 _ rfl) rfl ?_
    refine ev_getP (pc1 := 18) (ci := 4) (k := 0) (a := 74) (TBof tbs_121 _ rfl) rfl (fldof mo_121 fl_4_7) ltc_73 sh_73 nk_4_0 fp_4_0 (by decide) pf_73_0 ?_
    refine ev_iload_n (pc1 := 19) rfl (TBof tbs_121 _ rfl) rfl ?_
    refine ev_iaload (pc1 := 20) (n := 168) (TBof tbs_121 _ rfl) rfl ltc_74 sh_74 H.1 ?_
    replace H := H.2
    refine ev_iastore (pc1 := 21) (n := 168) (TBof tbs_121 _ rfl) rfl ltc_76 sh_76 H.1 ?_
    replace H := H.2
    refine ev_iinc (pc1 := 24) (n := 1) (c := 1) (x := v1) (cc := 1) (L1 := [(1, .int (v1 + 1)), (0, .ref 73)]) rfl (by rw [ml_121]; decide) (by decide) rfl (TBof tbs_121 _ rfl) rfl ?_
    refine ev_goto (pc1 := 2) (TBof tbs_121 _ rfl) (by decide) ?_
    exact ev_le [1, 0] rfl rfl H
set_option maxRecDepth 100000 in
theorem R_X4_restore_0 {d : Nat} {M : Im} {h : Hm} {D : Dm} {Q : Int32 → Im → Hm → Dm → Prop} (H : ((¬ ((M 73 12) = 0)) → (CV d nX4_record [.ref 73] M h D (fun M2 h2 D2 => EvI d nX4_restore 16 [(0, .ref 73), (1, .int 0)] [] M2 h2 D2 Q))) ∧ (¬ (¬ ((M 73 12) = 0)) → (Q (-5) M h D))) : EvI d nX4_restore 0 [(0, .ref 73)] [] M h D Q := by
  refine ev_aload_n (pc1 := 1) rfl rfl (TBof tbs_122 _ rfl) rfl ?_
  refine ev_getI (pc1 := 4) (ci := 4) (k := 12) (TBof tbs_122 _ rfl) rfl (fldof mo_122 fl_4_142) ltc_73 sh_73 nk_4_12 fi_4_12 ?_
  refine ev_if (pc1 := 7) (t := 10) (TBof tbs_122 _ rfl) (by decide) rfl (fun c1 => ?_) (fun c1 => ?_)
  · replace H := H.1 c1
    refine ev_aload_n (pc1 := 11) rfl rfl (TBof tbs_122 _ rfl) rfl ?_
    refine ev_callvV (pc1 := 14) (as := []) (r := []) (TBof tbs_122 _ rfl) rfl (lnkof mo_122 ln_4_66) rfl na_87 ltc_73 (sh_73.trans (by rw [mo_87])) (Nat.le_of_ble_eq_true rfl) H (fun M2 h2 D2 H => ?_)
    refine ev_iconst (pc1 := 15) (x := 0) (by decide) (TBof tbs_122 _ rfl) rfl ?_
    refine ev_istore_n (pc1 := 16) (L1 := [(1, .int 0), (0, .ref 73)]) (by rw [ml_122]; decide) rfl (TBof tbs_122 _ rfl) rfl ?_
    exact ev_le [1, 0] rfl rfl H
  · replace H := H.2 c1
    refine ev_bipush (pc1 := 9) (x := (-5)) (by decide) (TBof tbs_122 _ rfl) rfl ?_
    exact ev_ireturn (TBof tbs_122 _ rfl) (retI_i rt_122) ⟨_, rfl, H⟩
set_option maxRecDepth 100000 in
theorem R_X4_restore_16 {d : Nat} {v1 : Int32} {M : Im} {h : Hm} {D : Dm} {Q : Int32 → Im → Hm → Dm → Prop} (H : ((168 ≤ v1) → (vp_in 5 6 ∧ (vp_in 0 6 ∧ (vp_in 0 168 ∧ (Q (M 74 ((0 : Int32).toNatClampNeg)) M h (up2 D 77 ((0 : Int32).toNatClampNeg) (D 77 ((5 : Int32).toNatClampNeg)))))))) ∧ (¬ (168 ≤ v1) → (vp_in v1 168 ∧ (vp_in v1 168 ∧ (EvI d nX4_restore 16 [(0, .ref 73), (1, .int (v1 + 1))] [] (up2 M 74 (v1.toNatClampNeg) (M 76 (v1.toNatClampNeg))) h D Q))))) : EvI d nX4_restore 16 [(0, .ref 73), (1, .int v1)] [] M h D Q := by
  refine ev_iload_n (pc1 := 17) rfl (TBof tbs_122 _ rfl) rfl ?_
  refine ev_sipush (pc1 := 20) (x := 168) (by decide) (TBof tbs_122 _ rfl) rfl ?_
  refine ev_icmp (pc1 := 23) (t := 41) (TBof tbs_122 _ rfl) (by decide) rfl (fun c1 => ?_) (fun c1 => ?_)
  · replace H := H.1 c1
    refine ev_aload_n (pc1 := 42) rfl rfl (TBof tbs_122 _ rfl) rfl ?_
    refine ev_getP (pc1 := 45) (ci := 4) (k := 3) (a := 77) (TBof tbs_122 _ rfl) rfl (fldof mo_122 fl_4_19) ltc_73 sh_73 nk_4_3 fp_4_3 (by decide) pf_73_3 ?_
    refine ev_iconst (pc1 := 46) (x := 0) (by decide) (TBof tbs_122 _ rfl) rfl ?_
    refine ev_aload_n (pc1 := 47) rfl rfl (TBof tbs_122 _ rfl) rfl ?_
    refine ev_getP (pc1 := 50) (ci := 4) (k := 3) (a := 77) (TBof tbs_122 _ rfl) rfl (fldof mo_122 fl_4_19) ltc_73 sh_73 nk_4_3 fp_4_3 (by decide) pf_73_3 ?_
    refine ev_iconst (pc1 := 51) (x := 5) (by decide) (TBof tbs_122 _ rfl) rfl ?_
    refine ev_daload (pc1 := 52) (n := 6) (TBof tbs_122 _ rfl) rfl ltc_77 sh_77 H.1 ?_
    replace H := H.2
    refine ev_dastore (pc1 := 53) (n := 6) (TBof tbs_122 _ rfl) rfl ltc_77 sh_77 H.1 ?_
    replace H := H.2
    refine ev_aload_n (pc1 := 54) rfl rfl (TBof tbs_122 _ rfl) rfl ?_
    refine ev_getP (pc1 := 57) (ci := 4) (k := 0) (a := 74) (TBof tbs_122 _ rfl) rfl (fldof mo_122 fl_4_7) ltc_73 sh_73 nk_4_0 fp_4_0 (by decide) pf_73_0 ?_
    refine ev_iconst (pc1 := 58) (x := 0) (by decide) (TBof tbs_122 _ rfl) rfl ?_
    refine ev_iaload (pc1 := 59) (n := 168) (TBof tbs_122 _ rfl) rfl ltc_74 sh_74 H.1 ?_
    replace H := H.2
    exact ev_ireturn (TBof tbs_122 _ rfl) (retI_i rt_122) ⟨_, rfl, H⟩
  · replace H := H.2 c1
    refine ev_aload_n (pc1 := 24) rfl rfl (TBof tbs_122 _ rfl) rfl ?_
    refine ev_getP (pc1 := 27) (ci := 4) (k := 0) (a := 74) (TBof tbs_122 _ rfl) rfl (fldof mo_122 fl_4_7) ltc_73 sh_73 nk_4_0 fp_4_0 (by decide) pf_73_0 ?_
    refine ev_iload_n (pc1 := 28) rfl (TBof tbs_122 _ rfl) rfl ?_
    refine ev_aload_n (pc1 := 29) rfl rfl (TBof tbs_122 _ rfl) rfl ?_
    refine ev_getP (pc1 := 32) (ci := 4) (k := 2) (a := 76) (TBof tbs_122 _ rfl) rfl (fldof mo_122 fl_4_16) ltc_73 sh_73 nk_4_2 fp_4_2 (by decide) pf_73_2 ?_
    refine ev_iload_n (pc1 := 33) rfl (TBof tbs_122 _ rfl) rfl ?_
    refine ev_iaload (pc1 := 34) (n := 168) (TBof tbs_122 _ rfl) rfl ltc_76 sh_76 H.1 ?_
    replace H := H.2
    refine ev_iastore (pc1 := 35) (n := 168) (TBof tbs_122 _ rfl) rfl ltc_74 sh_74 H.1 ?_
    replace H := H.2
    refine ev_iinc (pc1 := 38) (n := 1) (c := 1) (x := v1) (cc := 1) (L1 := [(1, .int (v1 + 1)), (0, .ref 73)]) rfl (by rw [ml_122]; decide) (by decide) rfl (TBof tbs_122 _ rfl) rfl ?_
    refine ev_goto (pc1 := 16) (TBof tbs_122 _ rfl) (by decide) ?_
    exact ev_le [1, 0] rfl rfl H
set_option maxRecDepth 100000 in
theorem R_X4_isClosed_0 {d : Nat} {v1 : Int32} {M : Im} {h : Hm} {D : Dm} {Q : Int32 → Im → Hm → Dm → Prop} (H : (((M 73 13) = 0) → (Q 1 M h D)) ∧ (¬ ((M 73 13) = 0) → (CI d nX4_d [.int v1] M h D (fun x2 M2 h2 D2 => vp_in (x2 + 6) 168 ∧ (((¬ ((M2 74 ((x2 + 6).toNatClampNeg)) = 0)) → (Q 0 M2 h2 D2)) ∧ (¬ (¬ ((M2 74 ((x2 + 6).toNatClampNeg)) = 0)) → (Q 1 M2 h2 D2))))))) : EvI d nX4_isClosed 0 [(0, .ref 73), (1, .int v1)] [] M h D Q := by
  refine ev_aload_n (pc1 := 1) rfl rfl (TBof tbs_123 _ rfl) rfl ?_
  refine ev_getI (pc1 := 4) (ci := 4) (k := 13) (TBof tbs_123 _ rfl) rfl (fldof mo_123 fl_4_146) ltc_73 sh_73 nk_4_13 fi_4_13 ?_
  refine ev_if (pc1 := 7) (t := 22) (TBof tbs_123 _ rfl) (by decide) rfl (fun c1 => ?_) (fun c1 => ?_)
  · replace H := H.1 c1
    refine ev_iconst (pc1 := 23) (x := 1) (by decide) (TBof tbs_123 _ rfl) rfl ?_
    refine ev_goto (pc1 := 27) (TBof tbs_123 _ rfl) (by decide) ?_
    exact ev_ireturn (TBof tbs_123 _ rfl) (retI_z rt_123 (Or.inr rfl)) ⟨_, rfl, H⟩
  · replace H := H.2 c1
    refine ev_aload_n (pc1 := 8) rfl rfl (TBof tbs_123 _ rfl) rfl ?_
    refine ev_getP (pc1 := 11) (ci := 4) (k := 0) (a := 74) (TBof tbs_123 _ rfl) rfl (fldof mo_123 fl_4_7) ltc_73 sh_73 nk_4_0 fp_4_0 (by decide) pf_73_0 ?_
    refine ev_iload_n (pc1 := 12) rfl (TBof tbs_123 _ rfl) rfl ?_
    refine ev_callsI (pc1 := 15) (as := [.int v1]) (r := [.ref 74]) (TBof tbs_123 _ rfl) rfl (lnkof mo_123 ln_4_55) (Or.inl rfl) rfl na_86 (Nat.le_of_ble_eq_true rfl) H (fun x2 M2 h2 D2 H => ?_)
    refine ev_bipush (pc1 := 17) (x := 6) (by decide) (TBof tbs_123 _ rfl) rfl ?_
    refine ev_iadd (pc1 := 18) (TBof tbs_123 _ rfl) rfl ?_
    refine ev_iaload (pc1 := 19) (n := 168) (TBof tbs_123 _ rfl) rfl ltc_74 sh_74 H.1 ?_
    replace H := H.2
    refine ev_if (pc1 := 22) (t := 26) (TBof tbs_123 _ rfl) (by decide) rfl (fun c3 => ?_) (fun c3 => ?_)
    · replace H := H.1 c3
      refine ev_iconst (pc1 := 27) (x := 0) (by decide) (TBof tbs_123 _ rfl) rfl ?_
      exact ev_ireturn (TBof tbs_123 _ rfl) (retI_z rt_123 (Or.inl rfl)) ⟨_, rfl, H⟩
    · replace H := H.2 c3
      refine ev_iconst (pc1 := 23) (x := 1) (by decide) (TBof tbs_123 _ rfl) rfl ?_
      refine ev_goto (pc1 := 27) (TBof tbs_123 _ rfl) (by decide) ?_
      exact ev_ireturn (TBof tbs_123 _ rfl) (retI_z rt_123 (Or.inr rfl)) ⟨_, rfl, H⟩
set_option maxRecDepth 100000 in
theorem R_X4_isHand_0 {d : Nat} {v1 : Int32} {M : Im} {h : Hm} {D : Dm} {Q : Int32 → Im → Hm → Dm → Prop} (H : (((M 73 13) = 0) → (Q 0 M h D)) ∧ (¬ ((M 73 13) = 0) → (CI d nX4_t [.int v1] M h D (fun x2 M2 h2 D2 => vp_in (x2 + 2) 168 ∧ (((¬ ((M2 74 ((x2 + 2).toNatClampNeg)) = 1)) → (Q 0 M2 h2 D2)) ∧ (¬ (¬ ((M2 74 ((x2 + 2).toNatClampNeg)) = 1)) → (Q 1 M2 h2 D2))))))) : EvI d nX4_isHand 0 [(0, .ref 73), (1, .int v1)] [] M h D Q := by
  refine ev_aload_n (pc1 := 1) rfl rfl (TBof tbs_124 _ rfl) rfl ?_
  refine ev_getI (pc1 := 4) (ci := 4) (k := 13) (TBof tbs_124 _ rfl) rfl (fldof mo_124 fl_4_146) ltc_73 sh_73 nk_4_13 fi_4_13 ?_
  refine ev_if (pc1 := 7) (t := 26) (TBof tbs_124 _ rfl) (by decide) rfl (fun c1 => ?_) (fun c1 => ?_)
  · replace H := H.1 c1
    refine ev_iconst (pc1 := 27) (x := 0) (by decide) (TBof tbs_124 _ rfl) rfl ?_
    exact ev_ireturn (TBof tbs_124 _ rfl) (retI_z rt_124 (Or.inl rfl)) ⟨_, rfl, H⟩
  · replace H := H.2 c1
    refine ev_aload_n (pc1 := 8) rfl rfl (TBof tbs_124 _ rfl) rfl ?_
    refine ev_getP (pc1 := 11) (ci := 4) (k := 0) (a := 74) (TBof tbs_124 _ rfl) rfl (fldof mo_124 fl_4_7) ltc_73 sh_73 nk_4_0 fp_4_0 (by decide) pf_73_0 ?_
    refine ev_iload_n (pc1 := 12) rfl (TBof tbs_124 _ rfl) rfl ?_
    refine ev_callsI (pc1 := 15) (as := [.int v1]) (r := [.ref 74]) (TBof tbs_124 _ rfl) rfl (lnkof mo_124 ln_4_43) (Or.inl rfl) rfl na_85 (Nat.le_of_ble_eq_true rfl) H (fun x2 M2 h2 D2 H => ?_)
    refine ev_iconst (pc1 := 16) (x := 2) (by decide) (TBof tbs_124 _ rfl) rfl ?_
    refine ev_iadd (pc1 := 17) (TBof tbs_124 _ rfl) rfl ?_
    refine ev_iaload (pc1 := 18) (n := 168) (TBof tbs_124 _ rfl) rfl ltc_74 sh_74 H.1 ?_
    replace H := H.2
    refine ev_iconst (pc1 := 19) (x := 1) (by decide) (TBof tbs_124 _ rfl) rfl ?_
    refine ev_icmp (pc1 := 22) (t := 26) (TBof tbs_124 _ rfl) (by decide) rfl (fun c3 => ?_) (fun c3 => ?_)
    · replace H := H.1 c3
      refine ev_iconst (pc1 := 27) (x := 0) (by decide) (TBof tbs_124 _ rfl) rfl ?_
      exact ev_ireturn (TBof tbs_124 _ rfl) (retI_z rt_124 (Or.inl rfl)) ⟨_, rfl, H⟩
    · replace H := H.2 c3
      refine ev_iconst (pc1 := 23) (x := 1) (by decide) (TBof tbs_124 _ rfl) rfl ?_
      refine ev_goto (pc1 := 27) (TBof tbs_124 _ rfl) (by decide) ?_
      exact ev_ireturn (TBof tbs_124 _ rfl) (retI_z rt_124 (Or.inr rfl)) ⟨_, rfl, H⟩
set_option maxRecDepth 100000 in
theorem R_X4_liftedOf_0 {d : Nat} {v1 : Int32} {M : Im} {h : Hm} {D : Dm} {Q : Int32 → Im → Hm → Dm → Prop} (H : (((M 73 13) = 0) → (Q 0 M h D)) ∧ (¬ ((M 73 13) = 0) → (CI d nX4_d [.int v1] M h D (fun x2 M2 h2 D2 => vp_in (x2 + 5) 168 ∧ (Q (M2 74 ((x2 + 5).toNatClampNeg)) M2 h2 D2))))) : EvI d nX4_liftedOf 0 [(0, .ref 73), (1, .int v1)] [] M h D Q := by
  refine ev_aload_n (pc1 := 1) rfl rfl (TBof tbs_125 _ rfl) rfl ?_
  refine ev_getI (pc1 := 4) (ci := 4) (k := 13) (TBof tbs_125 _ rfl) rfl (fldof mo_125 fl_4_146) ltc_73 sh_73 nk_4_13 fi_4_13 ?_
  refine ev_if (pc1 := 7) (t := 21) (TBof tbs_125 _ rfl) (by decide) rfl (fun c1 => ?_) (fun c1 => ?_)
  · replace H := H.1 c1
    refine ev_iconst (pc1 := 22) (x := 0) (by decide) (TBof tbs_125 _ rfl) rfl ?_
    exact ev_ireturn (TBof tbs_125 _ rfl) (retI_i rt_125) ⟨_, rfl, H⟩
  · replace H := H.2 c1
    refine ev_aload_n (pc1 := 8) rfl rfl (TBof tbs_125 _ rfl) rfl ?_
    refine ev_getP (pc1 := 11) (ci := 4) (k := 0) (a := 74) (TBof tbs_125 _ rfl) rfl (fldof mo_125 fl_4_7) ltc_73 sh_73 nk_4_0 fp_4_0 (by decide) pf_73_0 ?_
    refine ev_iload_n (pc1 := 12) rfl (TBof tbs_125 _ rfl) rfl ?_
    refine ev_callsI (pc1 := 15) (as := [.int v1]) (r := [.ref 74]) (TBof tbs_125 _ rfl) rfl (lnkof mo_125 ln_4_55) (Or.inl rfl) rfl na_86 (Nat.le_of_ble_eq_true rfl) H (fun x2 M2 h2 D2 H => ?_)
    refine ev_iconst (pc1 := 16) (x := 5) (by decide) (TBof tbs_125 _ rfl) rfl ?_
    refine ev_iadd (pc1 := 17) (TBof tbs_125 _ rfl) rfl ?_
    refine ev_iaload (pc1 := 18) (n := 168) (TBof tbs_125 _ rfl) rfl ltc_74 sh_74 H.1 ?_
    replace H := H.2
    refine ev_goto (pc1 := 22) (TBof tbs_125 _ rfl) (by decide) ?_
    exact ev_ireturn (TBof tbs_125 _ rfl) (retI_i rt_125) ⟨_, rfl, H⟩
set_option maxRecDepth 100000 in
theorem R_X4_mark_0 {d : Nat} {v1 v2 : Int32} {M : Im} {h : Hm} {D : Dm} {Q : Im → Hm → Dm → Prop} (H : vp_in ((76 * v1) + v2) 5776 ∧ (Q (up2 M 78 (((76 * v1) + v2).toNatClampNeg) (1 &&& 1)) h D)) : EvV d nX4_mark 0 [(0, .ref 73), (1, .int v1), (2, .int v2)] [] M h D Q := by
  refine ev_aload_n (pc1 := 1) rfl rfl (TBof tbs_126 _ rfl) rfl ?_
  refine ev_getP (pc1 := 4) (ci := 4) (k := 4) (a := 78) (TBof tbs_126 _ rfl) rfl (fldof mo_126 fl_4_23) ltc_73 sh_73 nk_4_4 fp_4_4 (by decide) pf_73_4 ?_
  refine ev_bipush (pc1 := 6) (x := 76) (by decide) (TBof tbs_126 _ rfl) rfl ?_
  refine ev_iload_n (pc1 := 7) rfl (TBof tbs_126 _ rfl) rfl ?_
  refine ev_imul (pc1 := 8) (TBof tbs_126 _ rfl) rfl ?_
  refine ev_iload_n (pc1 := 9) rfl (TBof tbs_126 _ rfl) rfl ?_
  refine ev_iadd (pc1 := 10) (TBof tbs_126 _ rfl) rfl ?_
  refine ev_iconst (pc1 := 11) (x := 1) (by decide) (TBof tbs_126 _ rfl) rfl ?_
  refine ev_bastore (pc1 := 12) (n := 5776) (TBof tbs_126 _ rfl) rfl ltc_78 sh_78 H.1 ?_
  replace H := H.2
  exact ev_return (TBof tbs_126 _ rfl) rt_126 ⟨rfl, H⟩
set_option maxRecDepth 100000 in
theorem R_X4_markReach_0 {d : Nat} {v1 v2 v3 : Int32} {M : Im} {h : Hm} {D : Dm} {Q : Im → Hm → Dm → Prop} (H : CI d nX4_d [.int v2] M h D (fun x1 M1 h1 D1 => vp_in (x1 + 0) 168 ∧ (EvV d nX4_markReach 13 [(0, .ref 73), (1, .int v1), (2, .int v2), (3, .int v3), (4, .int (M1 74 ((x1 + 0).toNatClampNeg)))] [] M1 h1 D1 Q))) : EvV d nX4_markReach 0 [(0, .ref 73), (1, .int v1), (2, .int v2), (3, .int v3)] [] M h D Q := by
  refine ev_aload_n (pc1 := 1) rfl rfl (TBof tbs_127 _ rfl) rfl ?_
  refine ev_getP (pc1 := 4) (ci := 4) (k := 0) (a := 74) (TBof tbs_127 _ rfl) rfl (fldof mo_127 fl_4_7) ltc_73 sh_73 nk_4_0 fp_4_0 (by decide) pf_73_0 ?_
  refine ev_iload_n (pc1 := 5) rfl (TBof tbs_127 _ rfl) rfl ?_
  refine ev_callsI (pc1 := 8) (as := [.int v2]) (r := [.ref 74]) (TBof tbs_127 _ rfl) rfl (lnkof mo_127 ln_4_55) (Or.inl rfl) rfl na_86 (Nat.le_of_ble_eq_true rfl) H (fun x1 M1 h1 D1 H => ?_)
  refine ev_iconst (pc1 := 9) (x := 0) (by decide) (TBof tbs_127 _ rfl) rfl ?_
  refine ev_iadd (pc1 := 10) (TBof tbs_127 _ rfl) rfl ?_
  refine ev_iaload (pc1 := 11) (n := 168) (TBof tbs_127 _ rfl) rfl ltc_74 sh_74 H.1 ?_
  replace H := H.2
  refine ev_istore (pc1 := 13) (L1 := [(4, .int (M1 74 ((x1 + 0).toNatClampNeg))), (0, .ref 73), (1, .int v1), (2, .int v2), (3, .int v3)]) (by rw [ml_127]; decide) rfl (TBof tbs_127 _ rfl) rfl ?_
  exact ev_le [1, 2, 3, 4, 0] rfl rfl H
set_option maxRecDepth 100000 in
theorem R_X4_markReach_13 {d : Nat} {v1 v2 v3 v4 : Int32} {M : Im} {h : Hm} {D : Dm} {Q : Im → Hm → Dm → Prop} (H : ((v4 = (-5)) → (((v3 = 0) → (Q M h D)) ∧ (¬ (v3 = 0) → (CI d nX4_isClosed [.ref 73, .int v2] M h D (fun x3 M3 h3 D3 => ((x3 = 0) → (Q M3 h3 D3)) ∧ (¬ (x3 = 0) → (CV d nX4_mark [.ref 73, .int v1, .int v2] M3 h3 D3 (fun M5 h5 D5 => Q M5 h5 D5)))))))) ∧ (¬ (v4 = (-5)) → (CI d nX4_isClosed [.ref 73, .int v4] M h D (fun x6 M6 h6 D6 => ((x6 = 0) → (CI d nX4_d [.int v4] M6 h6 D6 (fun x8 M8 h8 D8 => vp_in (x8 + 0) 168 ∧ (EvV d nX4_markReach 13 [(0, .ref 73), (1, .int v1), (2, .int v2), (3, .int v3), (4, .int (M8 74 ((x8 + 0).toNatClampNeg)))] [] M8 h8 D8 Q)))) ∧ (¬ (x6 = 0) → (CV d nX4_mark [.ref 73, .int v1, .int v4] M6 h6 D6 (fun M9 h9 D9 => CI d nX4_d [.int v4] M9 h9 D9 (fun x10 M10 h10 D10 => vp_in (x10 + 0) 168 ∧ (EvV d nX4_markReach 13 [(0, .ref 73), (1, .int v1), (2, .int v2), (3, .int v3), (4, .int (M10 74 ((x10 + 0).toNatClampNeg)))] [] M10 h10 D10 Q))))))))) : EvV d nX4_markReach 13 [(0, .ref 73), (1, .int v1), (2, .int v2), (3, .int v3), (4, .int v4)] [] M h D Q := by
  refine ev_iload (pc1 := 15) rfl (TBof tbs_127 _ rfl) rfl ?_
  refine ev_bipush (pc1 := 17) (x := (-5)) (by decide) (TBof tbs_127 _ rfl) rfl ?_
  refine ev_icmp (pc1 := 20) (t := 53) (TBof tbs_127 _ rfl) (by decide) rfl (fun c1 => ?_) (fun c1 => ?_)
  · replace H := H.1 c1
    refine ev_iload_n (pc1 := 54) rfl (TBof tbs_127 _ rfl) rfl ?_
    refine ev_if (pc1 := 57) (t := 71) (TBof tbs_127 _ rfl) (by decide) rfl (fun c2 => ?_) (fun c2 => ?_)
    · replace H := H.1 c2
      exact ev_return (TBof tbs_127 _ rfl) rt_127 ⟨rfl, H⟩
    · replace H := H.2 c2
      refine ev_aload_n (pc1 := 58) rfl rfl (TBof tbs_127 _ rfl) rfl ?_
      refine ev_iload_n (pc1 := 59) rfl (TBof tbs_127 _ rfl) rfl ?_
      refine ev_callvI (pc1 := 62) (as := [.int v2]) (r := []) (TBof tbs_127 _ rfl) rfl (lnkof mo_127 ln_4_149) rfl na_123 ltc_73 (sh_73.trans (by rw [mo_123])) (Nat.le_of_ble_eq_true rfl) H (fun x3 M3 h3 D3 H => ?_)
      refine ev_if (pc1 := 65) (t := 71) (TBof tbs_127 _ rfl) (by decide) rfl (fun c4 => ?_) (fun c4 => ?_)
      · replace H := H.1 c4
        exact ev_return (TBof tbs_127 _ rfl) rt_127 ⟨rfl, H⟩
      · replace H := H.2 c4
        refine ev_aload_n (pc1 := 66) rfl rfl (TBof tbs_127 _ rfl) rfl ?_
        refine ev_iload_n (pc1 := 67) rfl (TBof tbs_127 _ rfl) rfl ?_
        refine ev_iload_n (pc1 := 68) rfl (TBof tbs_127 _ rfl) rfl ?_
        refine ev_callvV (pc1 := 71) (as := [.int v1, .int v2]) (r := []) (TBof tbs_127 _ rfl) rfl (lnkof mo_127 ln_4_152) rfl na_126 ltc_73 (sh_73.trans (by rw [mo_126])) (Nat.le_of_ble_eq_true rfl) H (fun M5 h5 D5 H => ?_)
        exact ev_return (TBof tbs_127 _ rfl) rt_127 ⟨rfl, H⟩
  · replace H := H.2 c1
    refine ev_aload_n (pc1 := 21) rfl rfl (TBof tbs_127 _ rfl) rfl ?_
    refine ev_iload (pc1 := 23) rfl (TBof tbs_127 _ rfl) rfl ?_
    refine ev_callvI (pc1 := 26) (as := [.int v4]) (r := []) (TBof tbs_127 _ rfl) rfl (lnkof mo_127 ln_4_149) rfl na_123 ltc_73 (sh_73.trans (by rw [mo_123])) (Nat.le_of_ble_eq_true rfl) H (fun x6 M6 h6 D6 H => ?_)
    refine ev_if (pc1 := 29) (t := 36) (TBof tbs_127 _ rfl) (by decide) rfl (fun c7 => ?_) (fun c7 => ?_)
    · replace H := H.1 c7
      refine ev_aload_n (pc1 := 37) rfl rfl (TBof tbs_127 _ rfl) rfl ?_
      refine ev_getP (pc1 := 40) (ci := 4) (k := 0) (a := 74) (TBof tbs_127 _ rfl) rfl (fldof mo_127 fl_4_7) ltc_73 sh_73 nk_4_0 fp_4_0 (by decide) pf_73_0 ?_
      refine ev_iload (pc1 := 42) rfl (TBof tbs_127 _ rfl) rfl ?_
      refine ev_callsI (pc1 := 45) (as := [.int v4]) (r := [.ref 74]) (TBof tbs_127 _ rfl) rfl (lnkof mo_127 ln_4_55) (Or.inl rfl) rfl na_86 (Nat.le_of_ble_eq_true rfl) H (fun x8 M8 h8 D8 H => ?_)
      refine ev_iconst (pc1 := 46) (x := 0) (by decide) (TBof tbs_127 _ rfl) rfl ?_
      refine ev_iadd (pc1 := 47) (TBof tbs_127 _ rfl) rfl ?_
      refine ev_iaload (pc1 := 48) (n := 168) (TBof tbs_127 _ rfl) rfl ltc_74 sh_74 H.1 ?_
      replace H := H.2
      refine ev_istore (pc1 := 50) (L1 := [(4, .int (M8 74 ((x8 + 0).toNatClampNeg))), (0, .ref 73), (1, .int v1), (2, .int v2), (3, .int v3)]) (by rw [ml_127]; decide) rfl (TBof tbs_127 _ rfl) rfl ?_
      refine ev_goto (pc1 := 13) (TBof tbs_127 _ rfl) (by decide) ?_
      exact ev_le [1, 2, 3, 4, 0] rfl rfl H
    · replace H := H.2 c7
      refine ev_aload_n (pc1 := 30) rfl rfl (TBof tbs_127 _ rfl) rfl ?_
      refine ev_iload_n (pc1 := 31) rfl (TBof tbs_127 _ rfl) rfl ?_
      refine ev_iload (pc1 := 33) rfl (TBof tbs_127 _ rfl) rfl ?_
      refine ev_callvV (pc1 := 36) (as := [.int v1, .int v4]) (r := []) (TBof tbs_127 _ rfl) rfl (lnkof mo_127 ln_4_152) rfl na_126 ltc_73 (sh_73.trans (by rw [mo_126])) (Nat.le_of_ble_eq_true rfl) H (fun M9 h9 D9 H => ?_)
      refine ev_aload_n (pc1 := 37) rfl rfl (TBof tbs_127 _ rfl) rfl ?_
      refine ev_getP (pc1 := 40) (ci := 4) (k := 0) (a := 74) (TBof tbs_127 _ rfl) rfl (fldof mo_127 fl_4_7) ltc_73 sh_73 nk_4_0 fp_4_0 (by decide) pf_73_0 ?_
      refine ev_iload (pc1 := 42) rfl (TBof tbs_127 _ rfl) rfl ?_
      refine ev_callsI (pc1 := 45) (as := [.int v4]) (r := [.ref 74]) (TBof tbs_127 _ rfl) rfl (lnkof mo_127 ln_4_55) (Or.inl rfl) rfl na_86 (Nat.le_of_ble_eq_true rfl) H (fun x10 M10 h10 D10 H => ?_)
      refine ev_iconst (pc1 := 46) (x := 0) (by decide) (TBof tbs_127 _ rfl) rfl ?_
      refine ev_iadd (pc1 := 47) (TBof tbs_127 _ rfl) rfl ?_
      refine ev_iaload (pc1 := 48) (n := 168) (TBof tbs_127 _ rfl) rfl ltc_74 sh_74 H.1 ?_
      replace H := H.2
      refine ev_istore (pc1 := 50) (L1 := [(4, .int (M10 74 ((x10 + 0).toNatClampNeg))), (0, .ref 73), (1, .int v1), (2, .int v2), (3, .int v3)]) (by rw [ml_127]; decide) rfl (TBof tbs_127 _ rfl) rfl ?_
      refine ev_goto (pc1 := 13) (TBof tbs_127 _ rfl) (by decide) ?_
      exact ev_le [1, 2, 3, 4, 0] rfl rfl H
set_option maxRecDepth 100000 in
theorem R_X4_markOpening_0 {d : Nat} {v1 : Int32} {M : Im} {h : Hm} {D : Dm} {Q : Im → Hm → Dm → Prop} (H : CI d nX4_d [.int v1] M h D (fun x1 M1 h1 D1 => vp_in (x1 + 1) 168 ∧ (CI d nX4_d [.int v1] M1 h1 D1 (fun x2 M2 h2 D2 => vp_in (x2 + 2) 168 ∧ (CV d nX4_markReach [.ref 73, .int v1, .int v1, .int 0] M2 h2 D2 (fun M3 h3 D3 => ((¬ ((M1 74 ((x1 + 1).toNatClampNeg)) = 1)) → (EvV d nX4_markOpening 53 [(0, .ref 73), (1, .int v1), (2, .int (M1 74 ((x1 + 1).toNatClampNeg))), (3, .int (M2 74 ((x2 + 2).toNatClampNeg)))] [] M3 h3 D3 Q)) ∧ (¬ (¬ ((M1 74 ((x1 + 1).toNatClampNeg)) = 1)) → (CI d nX4_isHand [.ref 73, .int (M2 74 ((x2 + 2).toNatClampNeg))] M3 h3 D3 (fun x5 M5 h5 D5 => ((¬ (x5 = 0)) → (EvV d nX4_markOpening 53 [(0, .ref 73), (1, .int v1), (2, .int (M1 74 ((x1 + 1).toNatClampNeg))), (3, .int (M2 74 ((x2 + 2).toNatClampNeg)))] [] M5 h5 D5 Q)) ∧ (¬ (¬ (x5 = 0)) → (CV d nX4_mark [.ref 73, .int v1, .int (16 + (M2 74 ((x2 + 2).toNatClampNeg)))] M5 h5 D5 (fun M7 h7 D7 => EvV d nX4_markOpening 53 [(0, .ref 73), (1, .int v1), (2, .int (M1 74 ((x1 + 1).toNatClampNeg))), (3, .int (M2 74 ((x2 + 2).toNatClampNeg)))] [] M7 h7 D7 Q)))))))))))) : EvV d nX4_markOpening 0 [(0, .ref 73), (1, .int v1)] [] M h D Q := by
  refine ev_aload_n (pc1 := 1) rfl rfl (TBof tbs_128 _ rfl) rfl ?_
  refine ev_getP (pc1 := 4) (ci := 4) (k := 0) (a := 74) (TBof tbs_128 _ rfl) rfl (fldof mo_128 fl_4_7) ltc_73 sh_73 nk_4_0 fp_4_0 (by decide) pf_73_0 ?_
  refine ev_iload_n (pc1 := 5) rfl (TBof tbs_128 _ rfl) rfl ?_
  refine ev_callsI (pc1 := 8) (as := [.int v1]) (r := [.ref 74]) (TBof tbs_128 _ rfl) rfl (lnkof mo_128 ln_4_55) (Or.inl rfl) rfl na_86 (Nat.le_of_ble_eq_true rfl) H (fun x1 M1 h1 D1 H => ?_)
  refine ev_iconst (pc1 := 9) (x := 1) (by decide) (TBof tbs_128 _ rfl) rfl ?_
  refine ev_iadd (pc1 := 10) (TBof tbs_128 _ rfl) rfl ?_
  refine ev_iaload (pc1 := 11) (n := 168) (TBof tbs_128 _ rfl) rfl ltc_74 sh_74 H.1 ?_
  replace H := H.2
  refine ev_istore_n (pc1 := 12) (L1 := [(2, .int (M1 74 ((x1 + 1).toNatClampNeg))), (0, .ref 73), (1, .int v1)]) (by rw [ml_128]; decide) rfl (TBof tbs_128 _ rfl) rfl ?_
  refine ev_aload_n (pc1 := 13) rfl rfl (TBof tbs_128 _ rfl) rfl ?_
  refine ev_getP (pc1 := 16) (ci := 4) (k := 0) (a := 74) (TBof tbs_128 _ rfl) rfl (fldof mo_128 fl_4_7) ltc_73 sh_73 nk_4_0 fp_4_0 (by decide) pf_73_0 ?_
  refine ev_iload_n (pc1 := 17) rfl (TBof tbs_128 _ rfl) rfl ?_
  refine ev_callsI (pc1 := 20) (as := [.int v1]) (r := [.ref 74]) (TBof tbs_128 _ rfl) rfl (lnkof mo_128 ln_4_55) (Or.inl rfl) rfl na_86 (Nat.le_of_ble_eq_true rfl) H (fun x2 M2 h2 D2 H => ?_)
  refine ev_iconst (pc1 := 21) (x := 2) (by decide) (TBof tbs_128 _ rfl) rfl ?_
  refine ev_iadd (pc1 := 22) (TBof tbs_128 _ rfl) rfl ?_
  refine ev_iaload (pc1 := 23) (n := 168) (TBof tbs_128 _ rfl) rfl ltc_74 sh_74 H.1 ?_
  replace H := H.2
  refine ev_istore_n (pc1 := 24) (L1 := [(3, .int (M2 74 ((x2 + 2).toNatClampNeg))), (2, .int (M1 74 ((x1 + 1).toNatClampNeg))), (0, .ref 73), (1, .int v1)]) (by rw [ml_128]; decide) rfl (TBof tbs_128 _ rfl) rfl ?_
  refine ev_aload_n (pc1 := 25) rfl rfl (TBof tbs_128 _ rfl) rfl ?_
  refine ev_iload_n (pc1 := 26) rfl (TBof tbs_128 _ rfl) rfl ?_
  refine ev_iload_n (pc1 := 27) rfl (TBof tbs_128 _ rfl) rfl ?_
  refine ev_iconst (pc1 := 28) (x := 0) (by decide) (TBof tbs_128 _ rfl) rfl ?_
  refine ev_callvV (pc1 := 31) (as := [.int v1, .int v1, .int 0]) (r := []) (TBof tbs_128 _ rfl) rfl (lnkof mo_128 ln_4_156) rfl na_127 ltc_73 (sh_73.trans (by rw [mo_127])) (Nat.le_of_ble_eq_true rfl) H (fun M3 h3 D3 H => ?_)
  refine ev_iload_n (pc1 := 32) rfl (TBof tbs_128 _ rfl) rfl ?_
  refine ev_iconst (pc1 := 33) (x := 1) (by decide) (TBof tbs_128 _ rfl) rfl ?_
  refine ev_icmp (pc1 := 36) (t := 53) (TBof tbs_128 _ rfl) (by decide) rfl (fun c4 => ?_) (fun c4 => ?_)
  · replace H := H.1 c4
    exact ev_le [2, 3, 1, 0] rfl rfl H
  · replace H := H.2 c4
    refine ev_aload_n (pc1 := 37) rfl rfl (TBof tbs_128 _ rfl) rfl ?_
    refine ev_iload_n (pc1 := 38) rfl (TBof tbs_128 _ rfl) rfl ?_
    refine ev_callvI (pc1 := 41) (as := [.int (M2 74 ((x2 + 2).toNatClampNeg))]) (r := []) (TBof tbs_128 _ rfl) rfl (lnkof mo_128 ln_4_160) rfl na_124 ltc_73 (sh_73.trans (by rw [mo_124])) (Nat.le_of_ble_eq_true rfl) H (fun x5 M5 h5 D5 H => ?_)
    refine ev_if (pc1 := 44) (t := 53) (TBof tbs_128 _ rfl) (by decide) rfl (fun c6 => ?_) (fun c6 => ?_)
    · replace H := H.1 c6
      exact ev_le [2, 3, 1, 0] rfl rfl H
    · replace H := H.2 c6
      refine ev_aload_n (pc1 := 45) rfl rfl (TBof tbs_128 _ rfl) rfl ?_
      refine ev_iload_n (pc1 := 46) rfl (TBof tbs_128 _ rfl) rfl ?_
      refine ev_bipush (pc1 := 48) (x := 16) (by decide) (TBof tbs_128 _ rfl) rfl ?_
      refine ev_iload_n (pc1 := 49) rfl (TBof tbs_128 _ rfl) rfl ?_
      refine ev_iadd (pc1 := 50) (TBof tbs_128 _ rfl) rfl ?_
      refine ev_callvV (pc1 := 53) (as := [.int v1, .int (16 + (M2 74 ((x2 + 2).toNatClampNeg)))]) (r := []) (TBof tbs_128 _ rfl) rfl (lnkof mo_128 ln_4_152) rfl na_126 ltc_73 (sh_73.trans (by rw [mo_126])) (Nat.le_of_ble_eq_true rfl) H (fun M7 h7 D7 H => ?_)
      exact ev_le [2, 3, 1, 0] rfl rfl H
set_option maxRecDepth 100000 in
theorem R_X4_markOpening_53 {d : Nat} {v1 v2 v3 : Int32} {M : Im} {h : Hm} {D : Dm} {Q : Im → Hm → Dm → Prop} (H : ((¬ (v2 = 2)) → (EvV d nX4_markOpening 78 [(0, .ref 73), (1, .int v1), (2, .int v2), (3, .int v3)] [] M h D Q)) ∧ (¬ (¬ (v2 = 2)) → (vp_in 0 168 ∧ (((v3 < (M 74 ((0 : Int32).toNatClampNeg))) → (EvV d nX4_markOpening 78 [(0, .ref 73), (1, .int v1), (2, .int v2), (3, .int v3)] [] M h D Q)) ∧ (¬ (v3 < (M 74 ((0 : Int32).toNatClampNeg))) → (vp_in v1 76 ∧ (Q (up2 M 79 (v1.toNatClampNeg) (1 &&& 1)) h D))))))) : EvV d nX4_markOpening 53 [(0, .ref 73), (1, .int v1), (2, .int v2), (3, .int v3)] [] M h D Q := by
  refine ev_iload_n (pc1 := 54) rfl (TBof tbs_128 _ rfl) rfl ?_
  refine ev_iconst (pc1 := 55) (x := 2) (by decide) (TBof tbs_128 _ rfl) rfl ?_
  refine ev_icmp (pc1 := 58) (t := 78) (TBof tbs_128 _ rfl) (by decide) rfl (fun c1 => ?_) (fun c1 => ?_)
  · replace H := H.1 c1
    exact ev_le [0, 1, 2, 3] rfl rfl H
  · replace H := H.2 c1
    refine ev_iload_n (pc1 := 59) rfl (TBof tbs_128 _ rfl) rfl ?_
    refine ev_aload_n (pc1 := 60) rfl rfl (TBof tbs_128 _ rfl) rfl ?_
    refine ev_getP (pc1 := 63) (ci := 4) (k := 0) (a := 74) (TBof tbs_128 _ rfl) rfl (fldof mo_128 fl_4_7) ltc_73 sh_73 nk_4_0 fp_4_0 (by decide) pf_73_0 ?_
    refine ev_iconst (pc1 := 64) (x := 0) (by decide) (TBof tbs_128 _ rfl) rfl ?_
    refine ev_iaload (pc1 := 65) (n := 168) (TBof tbs_128 _ rfl) rfl ltc_74 sh_74 H.1 ?_
    replace H := H.2
    refine ev_icmp (pc1 := 68) (t := 78) (TBof tbs_128 _ rfl) (by decide) rfl (fun c2 => ?_) (fun c2 => ?_)
    · replace H := H.1 c2
      exact ev_le [0, 1, 2, 3] rfl rfl H
    · replace H := H.2 c2
      refine ev_aload_n (pc1 := 69) rfl rfl (TBof tbs_128 _ rfl) rfl ?_
      refine ev_getP (pc1 := 72) (ci := 4) (k := 5) (a := 79) (TBof tbs_128 _ rfl) rfl (fldof mo_128 fl_4_27) ltc_73 sh_73 nk_4_5 fp_4_5 (by decide) pf_73_5 ?_
      refine ev_iload_n (pc1 := 73) rfl (TBof tbs_128 _ rfl) rfl ?_
      refine ev_iconst (pc1 := 74) (x := 1) (by decide) (TBof tbs_128 _ rfl) rfl ?_
      refine ev_bastore (pc1 := 75) (n := 76) (TBof tbs_128 _ rfl) rfl ltc_79 sh_79 H.1 ?_
      replace H := H.2
      refine ev_goto (pc1 := 97) (TBof tbs_128 _ rfl) (by decide) ?_
      exact ev_return (TBof tbs_128 _ rfl) rt_128 ⟨rfl, H⟩
set_option maxRecDepth 100000 in
theorem R_X4_markOpening_78 {d : Nat} {v1 v2 v3 : Int32} {M : Im} {h : Hm} {D : Dm} {Q : Im → Hm → Dm → Prop} (H : ((¬ (v2 = 2)) → (Q M h D)) ∧ (¬ (¬ (v2 = 2)) → (CI d nX4_isClosed [.ref 73, .int v3] M h D (fun x2 M2 h2 D2 => ((x2 = 0) → (Q M2 h2 D2)) ∧ (¬ (x2 = 0) → (CV d nX4_mark [.ref 73, .int v1, .int v3] M2 h2 D2 (fun M4 h4 D4 => Q M4 h4 D4))))))) : EvV d nX4_markOpening 78 [(0, .ref 73), (1, .int v1), (2, .int v2), (3, .int v3)] [] M h D Q := by
  refine ev_iload_n (pc1 := 79) rfl (TBof tbs_128 _ rfl) rfl ?_
  refine ev_iconst (pc1 := 80) (x := 2) (by decide) (TBof tbs_128 _ rfl) rfl ?_
  refine ev_icmp (pc1 := 83) (t := 97) (TBof tbs_128 _ rfl) (by decide) rfl (fun c1 => ?_) (fun c1 => ?_)
  · replace H := H.1 c1
    exact ev_return (TBof tbs_128 _ rfl) rt_128 ⟨rfl, H⟩
  · replace H := H.2 c1
    refine ev_aload_n (pc1 := 84) rfl rfl (TBof tbs_128 _ rfl) rfl ?_
    refine ev_iload_n (pc1 := 85) rfl (TBof tbs_128 _ rfl) rfl ?_
    refine ev_callvI (pc1 := 88) (as := [.int v3]) (r := []) (TBof tbs_128 _ rfl) rfl (lnkof mo_128 ln_4_149) rfl na_123 ltc_73 (sh_73.trans (by rw [mo_123])) (Nat.le_of_ble_eq_true rfl) H (fun x2 M2 h2 D2 H => ?_)
    refine ev_if (pc1 := 91) (t := 97) (TBof tbs_128 _ rfl) (by decide) rfl (fun c3 => ?_) (fun c3 => ?_)
    · replace H := H.1 c3
      exact ev_return (TBof tbs_128 _ rfl) rt_128 ⟨rfl, H⟩
    · replace H := H.2 c3
      refine ev_aload_n (pc1 := 92) rfl rfl (TBof tbs_128 _ rfl) rfl ?_
      refine ev_iload_n (pc1 := 93) rfl (TBof tbs_128 _ rfl) rfl ?_
      refine ev_iload_n (pc1 := 94) rfl (TBof tbs_128 _ rfl) rfl ?_
      refine ev_callvV (pc1 := 97) (as := [.int v1, .int v3]) (r := []) (TBof tbs_128 _ rfl) rfl (lnkof mo_128 ln_4_152) rfl na_126 ltc_73 (sh_73.trans (by rw [mo_126])) (Nat.le_of_ble_eq_true rfl) H (fun M4 h4 D4 H => ?_)
      exact ev_return (TBof tbs_128 _ rfl) rt_128 ⟨rfl, H⟩
set_option maxRecDepth 100000 in
theorem R_X4_markLiftings_0 {d : Nat} {v1 : Int32} {M : Im} {h : Hm} {D : Dm} {Q : Im → Hm → Dm → Prop} (H : CI d nX4_liftedOf [.ref 73, .int v1] M h D (fun x1 M1 h1 D1 => EvV d nX4_markLiftings 6 [(0, .ref 73), (1, .int v1), (2, .int x1)] [] M1 h1 D1 Q)) : EvV d nX4_markLiftings 0 [(0, .ref 73), (1, .int v1)] [] M h D Q := by
  refine ev_aload_n (pc1 := 1) rfl rfl (TBof tbs_129 _ rfl) rfl ?_
  refine ev_iload_n (pc1 := 2) rfl (TBof tbs_129 _ rfl) rfl ?_
  refine ev_callvI (pc1 := 5) (as := [.int v1]) (r := []) (TBof tbs_129 _ rfl) rfl (lnkof mo_129 ln_4_163) rfl na_125 ltc_73 (sh_73.trans (by rw [mo_125])) (Nat.le_of_ble_eq_true rfl) H (fun x1 M1 h1 D1 H => ?_)
  refine ev_istore_n (pc1 := 6) (L1 := [(2, .int x1), (0, .ref 73), (1, .int v1)]) (by rw [ml_129]; decide) rfl (TBof tbs_129 _ rfl) rfl ?_
  exact ev_le [1, 2, 0] rfl rfl H
set_option maxRecDepth 100000 in
theorem R_X4_markLiftings_6 {d : Nat} {v1 v2 : Int32} {M : Im} {h : Hm} {D : Dm} {Q : Im → Hm → Dm → Prop} (H : CI d nX4_d [.int v1] M h D (fun x1 M1 h1 D1 => vp_in (x1 + 4) 168 ∧ ((((M1 74 ((x1 + 4).toNatClampNeg)) ≤ v2) → (Q M1 h1 D1)) ∧ (¬ ((M1 74 ((x1 + 4).toNatClampNeg)) ≤ v2) → (CV d nX4_markReach [.ref 73, .int ((28 + (3 * v1)) + v2), .int v1, .int 1] M1 h1 D1 (fun M3 h3 D3 => CI d nX4_isHand [.ref 73, .int 10] M3 h3 D3 (fun x4 M4 h4 D4 => ((¬ (x4 = 0)) → (CI d nX4_liftedOf [.ref 73, .int v1] M4 h4 D4 (fun x6 M6 h6 D6 => EvV d nX4_markLiftings 60 [(0, .ref 73), (1, .int v1), (2, .int v2), (3, .int ((28 + (3 * v1)) + v2)), (4, .int x6)] [] M6 h6 D6 Q))) ∧ (¬ (¬ (x4 = 0)) → (CV d nX4_mark [.ref 73, .int ((28 + (3 * v1)) + v2), .int 26] M4 h4 D4 (fun M7 h7 D7 => CI d nX4_liftedOf [.ref 73, .int v1] M7 h7 D7 (fun x8 M8 h8 D8 => EvV d nX4_markLiftings 60 [(0, .ref 73), (1, .int v1), (2, .int v2), (3, .int ((28 + (3 * v1)) + v2)), (4, .int x8)] [] M8 h8 D8 Q))))))))))) : EvV d nX4_markLiftings 6 [(0, .ref 73), (1, .int v1), (2, .int v2)] [] M h D Q := by
  refine ev_iload_n (pc1 := 7) rfl (TBof tbs_129 _ rfl) rfl ?_
  refine ev_aload_n (pc1 := 8) rfl rfl (TBof tbs_129 _ rfl) rfl ?_
  refine ev_getP (pc1 := 11) (ci := 4) (k := 0) (a := 74) (TBof tbs_129 _ rfl) rfl (fldof mo_129 fl_4_7) ltc_73 sh_73 nk_4_0 fp_4_0 (by decide) pf_73_0 ?_
  refine ev_iload_n (pc1 := 12) rfl (TBof tbs_129 _ rfl) rfl ?_
  refine ev_callsI (pc1 := 15) (as := [.int v1]) (r := [.ref 74, .int v2]) (TBof tbs_129 _ rfl) rfl (lnkof mo_129 ln_4_55) (Or.inl rfl) rfl na_86 (Nat.le_of_ble_eq_true rfl) H (fun x1 M1 h1 D1 H => ?_)
  refine ev_iconst (pc1 := 16) (x := 4) (by decide) (TBof tbs_129 _ rfl) rfl ?_
  refine ev_iadd (pc1 := 17) (TBof tbs_129 _ rfl) rfl ?_
  refine ev_iaload (pc1 := 18) (n := 168) (TBof tbs_129 _ rfl) rfl ltc_74 sh_74 H.1 ?_
  replace H := H.2
  refine ev_icmp (pc1 := 21) (t := 92) (TBof tbs_129 _ rfl) (by decide) rfl (fun c2 => ?_) (fun c2 => ?_)
  · replace H := H.1 c2
    exact ev_return (TBof tbs_129 _ rfl) rt_129 ⟨rfl, H⟩
  · replace H := H.2 c2
    refine ev_bipush (pc1 := 23) (x := 28) (by decide) (TBof tbs_129 _ rfl) rfl ?_
    refine ev_iconst (pc1 := 24) (x := 3) (by decide) (TBof tbs_129 _ rfl) rfl ?_
    refine ev_iload_n (pc1 := 25) rfl (TBof tbs_129 _ rfl) rfl ?_
    refine ev_imul (pc1 := 26) (TBof tbs_129 _ rfl) rfl ?_
    refine ev_iadd (pc1 := 27) (TBof tbs_129 _ rfl) rfl ?_
    refine ev_iload_n (pc1 := 28) rfl (TBof tbs_129 _ rfl) rfl ?_
    refine ev_iadd (pc1 := 29) (TBof tbs_129 _ rfl) rfl ?_
    refine ev_istore_n (pc1 := 30) (L1 := [(3, .int ((28 + (3 * v1)) + v2)), (0, .ref 73), (1, .int v1), (2, .int v2)]) (by rw [ml_129]; decide) rfl (TBof tbs_129 _ rfl) rfl ?_
    refine ev_aload_n (pc1 := 31) rfl rfl (TBof tbs_129 _ rfl) rfl ?_
    refine ev_iload_n (pc1 := 32) rfl (TBof tbs_129 _ rfl) rfl ?_
    refine ev_iload_n (pc1 := 33) rfl (TBof tbs_129 _ rfl) rfl ?_
    refine ev_iconst (pc1 := 34) (x := 1) (by decide) (TBof tbs_129 _ rfl) rfl ?_
    refine ev_callvV (pc1 := 37) (as := [.int ((28 + (3 * v1)) + v2), .int v1, .int 1]) (r := []) (TBof tbs_129 _ rfl) rfl (lnkof mo_129 ln_4_156) rfl na_127 ltc_73 (sh_73.trans (by rw [mo_127])) (Nat.le_of_ble_eq_true rfl) H (fun M3 h3 D3 H => ?_)
    refine ev_aload_n (pc1 := 38) rfl rfl (TBof tbs_129 _ rfl) rfl ?_
    refine ev_bipush (pc1 := 40) (x := 10) (by decide) (TBof tbs_129 _ rfl) rfl ?_
    refine ev_callvI (pc1 := 43) (as := [.int 10]) (r := []) (TBof tbs_129 _ rfl) rfl (lnkof mo_129 ln_4_160) rfl na_124 ltc_73 (sh_73.trans (by rw [mo_124])) (Nat.le_of_ble_eq_true rfl) H (fun x4 M4 h4 D4 H => ?_)
    refine ev_if (pc1 := 46) (t := 53) (TBof tbs_129 _ rfl) (by decide) rfl (fun c5 => ?_) (fun c5 => ?_)
    · replace H := H.1 c5
      refine ev_aload_n (pc1 := 54) rfl rfl (TBof tbs_129 _ rfl) rfl ?_
      refine ev_iload_n (pc1 := 55) rfl (TBof tbs_129 _ rfl) rfl ?_
      refine ev_callvI (pc1 := 58) (as := [.int v1]) (r := []) (TBof tbs_129 _ rfl) rfl (lnkof mo_129 ln_4_163) rfl na_125 ltc_73 (sh_73.trans (by rw [mo_125])) (Nat.le_of_ble_eq_true rfl) H (fun x6 M6 h6 D6 H => ?_)
      refine ev_istore (pc1 := 60) (L1 := [(4, .int x6), (3, .int ((28 + (3 * v1)) + v2)), (0, .ref 73), (1, .int v1), (2, .int v2)]) (by rw [ml_129]; decide) rfl (TBof tbs_129 _ rfl) rfl ?_
      exact ev_le [2, 3, 4, 1, 0] rfl rfl H
    · replace H := H.2 c5
      refine ev_aload_n (pc1 := 47) rfl rfl (TBof tbs_129 _ rfl) rfl ?_
      refine ev_iload_n (pc1 := 48) rfl (TBof tbs_129 _ rfl) rfl ?_
      refine ev_bipush (pc1 := 50) (x := 26) (by decide) (TBof tbs_129 _ rfl) rfl ?_
      refine ev_callvV (pc1 := 53) (as := [.int ((28 + (3 * v1)) + v2), .int 26]) (r := []) (TBof tbs_129 _ rfl) rfl (lnkof mo_129 ln_4_152) rfl na_126 ltc_73 (sh_73.trans (by rw [mo_126])) (Nat.le_of_ble_eq_true rfl) H (fun M7 h7 D7 H => ?_)
      refine ev_aload_n (pc1 := 54) rfl rfl (TBof tbs_129 _ rfl) rfl ?_
      refine ev_iload_n (pc1 := 55) rfl (TBof tbs_129 _ rfl) rfl ?_
      refine ev_callvI (pc1 := 58) (as := [.int v1]) (r := []) (TBof tbs_129 _ rfl) rfl (lnkof mo_129 ln_4_163) rfl na_125 ltc_73 (sh_73.trans (by rw [mo_125])) (Nat.le_of_ble_eq_true rfl) H (fun x8 M8 h8 D8 H => ?_)
      refine ev_istore (pc1 := 60) (L1 := [(4, .int x8), (3, .int ((28 + (3 * v1)) + v2)), (0, .ref 73), (1, .int v1), (2, .int v2)]) (by rw [ml_129]; decide) rfl (TBof tbs_129 _ rfl) rfl ?_
      exact ev_le [2, 3, 4, 1, 0] rfl rfl H
set_option maxRecDepth 100000 in
theorem R_X4_markLiftings_60 {d : Nat} {v1 v2 v3 v4 : Int32} {M : Im} {h : Hm} {D : Dm} {Q : Im → Hm → Dm → Prop} (H : ((v2 ≤ v4) → (EvV d nX4_markLiftings 6 [(0, .ref 73), (1, .int v1), (2, .int (v2 + 1))] [] M h D Q)) ∧ (¬ (v2 ≤ v4) → (CV d nX4_mark [.ref 73, .int v3, .int ((28 + (3 * v1)) + v4)] M h D (fun M2 h2 D2 => EvV d nX4_markLiftings 60 [(0, .ref 73), (1, .int v1), (2, .int v2), (3, .int v3), (4, .int (v4 + 1))] [] M2 h2 D2 Q)))) : EvV d nX4_markLiftings 60 [(0, .ref 73), (1, .int v1), (2, .int v2), (3, .int v3), (4, .int v4)] [] M h D Q := by
  refine ev_iload (pc1 := 62) rfl (TBof tbs_129 _ rfl) rfl ?_
  refine ev_iload_n (pc1 := 63) rfl (TBof tbs_129 _ rfl) rfl ?_
  refine ev_icmp (pc1 := 66) (t := 86) (TBof tbs_129 _ rfl) (by decide) rfl (fun c1 => ?_) (fun c1 => ?_)
  · replace H := H.1 c1
    refine ev_iinc (pc1 := 89) (n := 2) (c := 1) (x := v2) (cc := 1) (L1 := [(2, .int (v2 + 1)), (0, .ref 73), (1, .int v1), (3, .int v3), (4, .int v4)]) rfl (by rw [ml_129]; decide) (by decide) rfl (TBof tbs_129 _ rfl) rfl ?_
    refine ev_goto (pc1 := 6) (TBof tbs_129 _ rfl) (by decide) ?_
    exact ev_le [1, 2, 0] rfl rfl H
  · replace H := H.2 c1
    refine ev_aload_n (pc1 := 67) rfl rfl (TBof tbs_129 _ rfl) rfl ?_
    refine ev_iload_n (pc1 := 68) rfl (TBof tbs_129 _ rfl) rfl ?_
    refine ev_bipush (pc1 := 70) (x := 28) (by decide) (TBof tbs_129 _ rfl) rfl ?_
    refine ev_iconst (pc1 := 71) (x := 3) (by decide) (TBof tbs_129 _ rfl) rfl ?_
    refine ev_iload_n (pc1 := 72) rfl (TBof tbs_129 _ rfl) rfl ?_
    refine ev_imul (pc1 := 73) (TBof tbs_129 _ rfl) rfl ?_
    refine ev_iadd (pc1 := 74) (TBof tbs_129 _ rfl) rfl ?_
    refine ev_iload (pc1 := 76) rfl (TBof tbs_129 _ rfl) rfl ?_
    refine ev_iadd (pc1 := 77) (TBof tbs_129 _ rfl) rfl ?_
    refine ev_callvV (pc1 := 80) (as := [.int v3, .int ((28 + (3 * v1)) + v4)]) (r := []) (TBof tbs_129 _ rfl) rfl (lnkof mo_129 ln_4_152) rfl na_126 ltc_73 (sh_73.trans (by rw [mo_126])) (Nat.le_of_ble_eq_true rfl) H (fun M2 h2 D2 H => ?_)
    refine ev_iinc (pc1 := 83) (n := 4) (c := 1) (x := v4) (cc := 1) (L1 := [(4, .int (v4 + 1)), (0, .ref 73), (1, .int v1), (2, .int v2), (3, .int v3)]) rfl (by rw [ml_129]; decide) (by decide) rfl (TBof tbs_129 _ rfl) rfl ?_
    refine ev_goto (pc1 := 60) (TBof tbs_129 _ rfl) (by decide) ?_
    exact ev_le [1, 2, 3, 4, 0] rfl rfl H
set_option maxRecDepth 100000 in
theorem R_X4_markTaking_0 {d : Nat} {v1 : Int32} {M : Im} {h : Hm} {D : Dm} {Q : Im → Hm → Dm → Prop} (H : CI d nX4_t [.int v1] M h D (fun x1 M1 h1 D1 => vp_in (x1 + 0) 168 ∧ ((((M1 74 ((x1 + 0).toNatClampNeg)) = (-5)) → (Q M1 h1 D1)) ∧ (¬ ((M1 74 ((x1 + 0).toNatClampNeg)) = (-5)) → (CI d nX4_isHand [.ref 73, .int v1] M1 h1 D1 (fun x3 M3 h3 D3 => ((x3 = 0) → (CV d nX4_markReach [.ref 73, .int (16 + v1), .int (M1 74 ((x1 + 0).toNatClampNeg)), .int 1] M3 h3 D3 (fun M5 h5 D5 => CI d nX4_liftedOf [.ref 73, .int (M1 74 ((x1 + 0).toNatClampNeg))] M5 h5 D5 (fun x6 M6 h6 D6 => EvV d nX4_markTaking 43 [(0, .ref 73), (1, .int v1), (2, .int (M1 74 ((x1 + 0).toNatClampNeg))), (3, .int x6)] [] M6 h6 D6 Q)))) ∧ (¬ (x3 = 0) → (Q M3 h3 D3)))))))) : EvV d nX4_markTaking 0 [(0, .ref 73), (1, .int v1)] [] M h D Q := by
  refine ev_aload_n (pc1 := 1) rfl rfl (TBof tbs_130 _ rfl) rfl ?_
  refine ev_getP (pc1 := 4) (ci := 4) (k := 0) (a := 74) (TBof tbs_130 _ rfl) rfl (fldof mo_130 fl_4_7) ltc_73 sh_73 nk_4_0 fp_4_0 (by decide) pf_73_0 ?_
  refine ev_iload_n (pc1 := 5) rfl (TBof tbs_130 _ rfl) rfl ?_
  refine ev_callsI (pc1 := 8) (as := [.int v1]) (r := [.ref 74]) (TBof tbs_130 _ rfl) rfl (lnkof mo_130 ln_4_43) (Or.inl rfl) rfl na_85 (Nat.le_of_ble_eq_true rfl) H (fun x1 M1 h1 D1 H => ?_)
  refine ev_iconst (pc1 := 9) (x := 0) (by decide) (TBof tbs_130 _ rfl) rfl ?_
  refine ev_iadd (pc1 := 10) (TBof tbs_130 _ rfl) rfl ?_
  refine ev_iaload (pc1 := 11) (n := 168) (TBof tbs_130 _ rfl) rfl ltc_74 sh_74 H.1 ?_
  replace H := H.2
  refine ev_istore_n (pc1 := 12) (L1 := [(2, .int (M1 74 ((x1 + 0).toNatClampNeg))), (0, .ref 73), (1, .int v1)]) (by rw [ml_130]; decide) rfl (TBof tbs_130 _ rfl) rfl ?_
  refine ev_iload_n (pc1 := 13) rfl (TBof tbs_130 _ rfl) rfl ?_
  refine ev_bipush (pc1 := 15) (x := (-5)) (by decide) (TBof tbs_130 _ rfl) rfl ?_
  refine ev_icmp (pc1 := 18) (t := 26) (TBof tbs_130 _ rfl) (by decide) rfl (fun c2 => ?_) (fun c2 => ?_)
  · replace H := H.1 c2
    exact ev_return (TBof tbs_130 _ rfl) rt_130 ⟨rfl, H⟩
  · replace H := H.2 c2
    refine ev_aload_n (pc1 := 19) rfl rfl (TBof tbs_130 _ rfl) rfl ?_
    refine ev_iload_n (pc1 := 20) rfl (TBof tbs_130 _ rfl) rfl ?_
    refine ev_callvI (pc1 := 23) (as := [.int v1]) (r := []) (TBof tbs_130 _ rfl) rfl (lnkof mo_130 ln_4_160) rfl na_124 ltc_73 (sh_73.trans (by rw [mo_124])) (Nat.le_of_ble_eq_true rfl) H (fun x3 M3 h3 D3 H => ?_)
    refine ev_if (pc1 := 26) (t := 27) (TBof tbs_130 _ rfl) (by decide) rfl (fun c4 => ?_) (fun c4 => ?_)
    · replace H := H.1 c4
      refine ev_aload_n (pc1 := 28) rfl rfl (TBof tbs_130 _ rfl) rfl ?_
      refine ev_bipush (pc1 := 30) (x := 16) (by decide) (TBof tbs_130 _ rfl) rfl ?_
      refine ev_iload_n (pc1 := 31) rfl (TBof tbs_130 _ rfl) rfl ?_
      refine ev_iadd (pc1 := 32) (TBof tbs_130 _ rfl) rfl ?_
      refine ev_iload_n (pc1 := 33) rfl (TBof tbs_130 _ rfl) rfl ?_
      refine ev_iconst (pc1 := 34) (x := 1) (by decide) (TBof tbs_130 _ rfl) rfl ?_
      refine ev_callvV (pc1 := 37) (as := [.int (16 + v1), .int (M1 74 ((x1 + 0).toNatClampNeg)), .int 1]) (r := []) (TBof tbs_130 _ rfl) rfl (lnkof mo_130 ln_4_156) rfl na_127 ltc_73 (sh_73.trans (by rw [mo_127])) (Nat.le_of_ble_eq_true rfl) H (fun M5 h5 D5 H => ?_)
      refine ev_aload_n (pc1 := 38) rfl rfl (TBof tbs_130 _ rfl) rfl ?_
      refine ev_iload_n (pc1 := 39) rfl (TBof tbs_130 _ rfl) rfl ?_
      refine ev_callvI (pc1 := 42) (as := [.int (M1 74 ((x1 + 0).toNatClampNeg))]) (r := []) (TBof tbs_130 _ rfl) rfl (lnkof mo_130 ln_4_163) rfl na_125 ltc_73 (sh_73.trans (by rw [mo_125])) (Nat.le_of_ble_eq_true rfl) H (fun x6 M6 h6 D6 H => ?_)
      refine ev_istore_n (pc1 := 43) (L1 := [(3, .int x6), (2, .int (M1 74 ((x1 + 0).toNatClampNeg))), (0, .ref 73), (1, .int v1)]) (by rw [ml_130]; decide) rfl (TBof tbs_130 _ rfl) rfl ?_
      exact ev_le [2, 3, 1, 0] rfl rfl H
    · replace H := H.2 c4
      exact ev_return (TBof tbs_130 _ rfl) rt_130 ⟨rfl, H⟩
set_option maxRecDepth 100000 in
theorem R_X4_markTaking_43 {d : Nat} {v1 v2 v3 : Int32} {M : Im} {h : Hm} {D : Dm} {Q : Im → Hm → Dm → Prop} (H : CI d nX4_t [.int v1] M h D (fun x1 M1 h1 D1 => vp_in (x1 + 1) 168 ∧ ((((M1 74 ((x1 + 1).toNatClampNeg)) ≤ v3) → (Q M1 h1 D1)) ∧ (¬ ((M1 74 ((x1 + 1).toNatClampNeg)) ≤ v3) → (CV d nX4_mark [.ref 73, .int (16 + v1), .int ((28 + (3 * v2)) + v3)] M1 h1 D1 (fun M3 h3 D3 => EvV d nX4_markTaking 43 [(0, .ref 73), (1, .int v1), (2, .int v2), (3, .int (v3 + 1))] [] M3 h3 D3 Q)))))) : EvV d nX4_markTaking 43 [(0, .ref 73), (1, .int v1), (2, .int v2), (3, .int v3)] [] M h D Q := by
  refine ev_iload_n (pc1 := 44) rfl (TBof tbs_130 _ rfl) rfl ?_
  refine ev_aload_n (pc1 := 45) rfl rfl (TBof tbs_130 _ rfl) rfl ?_
  refine ev_getP (pc1 := 48) (ci := 4) (k := 0) (a := 74) (TBof tbs_130 _ rfl) rfl (fldof mo_130 fl_4_7) ltc_73 sh_73 nk_4_0 fp_4_0 (by decide) pf_73_0 ?_
  refine ev_iload_n (pc1 := 49) rfl (TBof tbs_130 _ rfl) rfl ?_
  refine ev_callsI (pc1 := 52) (as := [.int v1]) (r := [.ref 74, .int v3]) (TBof tbs_130 _ rfl) rfl (lnkof mo_130 ln_4_43) (Or.inl rfl) rfl na_85 (Nat.le_of_ble_eq_true rfl) H (fun x1 M1 h1 D1 H => ?_)
  refine ev_iconst (pc1 := 53) (x := 1) (by decide) (TBof tbs_130 _ rfl) rfl ?_
  refine ev_iadd (pc1 := 54) (TBof tbs_130 _ rfl) rfl ?_
  refine ev_iaload (pc1 := 55) (n := 168) (TBof tbs_130 _ rfl) rfl ltc_74 sh_74 H.1 ?_
  replace H := H.2
  refine ev_icmp (pc1 := 58) (t := 80) (TBof tbs_130 _ rfl) (by decide) rfl (fun c2 => ?_) (fun c2 => ?_)
  · replace H := H.1 c2
    exact ev_return (TBof tbs_130 _ rfl) rt_130 ⟨rfl, H⟩
  · replace H := H.2 c2
    refine ev_aload_n (pc1 := 59) rfl rfl (TBof tbs_130 _ rfl) rfl ?_
    refine ev_bipush (pc1 := 61) (x := 16) (by decide) (TBof tbs_130 _ rfl) rfl ?_
    refine ev_iload_n (pc1 := 62) rfl (TBof tbs_130 _ rfl) rfl ?_
    refine ev_iadd (pc1 := 63) (TBof tbs_130 _ rfl) rfl ?_
    refine ev_bipush (pc1 := 65) (x := 28) (by decide) (TBof tbs_130 _ rfl) rfl ?_
    refine ev_iconst (pc1 := 66) (x := 3) (by decide) (TBof tbs_130 _ rfl) rfl ?_
    refine ev_iload_n (pc1 := 67) rfl (TBof tbs_130 _ rfl) rfl ?_
    refine ev_imul (pc1 := 68) (TBof tbs_130 _ rfl) rfl ?_
    refine ev_iadd (pc1 := 69) (TBof tbs_130 _ rfl) rfl ?_
    refine ev_iload_n (pc1 := 70) rfl (TBof tbs_130 _ rfl) rfl ?_
    refine ev_iadd (pc1 := 71) (TBof tbs_130 _ rfl) rfl ?_
    refine ev_callvV (pc1 := 74) (as := [.int (16 + v1), .int ((28 + (3 * v2)) + v3)]) (r := []) (TBof tbs_130 _ rfl) rfl (lnkof mo_130 ln_4_152) rfl na_126 ltc_73 (sh_73.trans (by rw [mo_126])) (Nat.le_of_ble_eq_true rfl) H (fun M3 h3 D3 H => ?_)
    refine ev_iinc (pc1 := 77) (n := 3) (c := 1) (x := v3) (cc := 1) (L1 := [(3, .int (v3 + 1)), (0, .ref 73), (1, .int v1), (2, .int v2)]) rfl (by rw [ml_130]; decide) (by decide) rfl (TBof tbs_130 _ rfl) rfl ?_
    refine ev_goto (pc1 := 43) (TBof tbs_130 _ rfl) (by decide) ?_
    exact ev_le [1, 2, 3, 0] rfl rfl H
set_option maxRecDepth 100000 in
theorem R_X4_reckon_0 {d : Nat} {v1 : Int32} {M : Im} {h : Hm} {D : Dm} {Q : Im → Hm → Dm → Prop} (H : (v1 = 0 ∨ v1 = 1) ∧ (EvV d nX4_reckon 7 [(0, .ref 73), (1, .int v1), (2, .int 0)] [] (up2 M 73 13 v1) h D Q)) : EvV d nX4_reckon 0 [(0, .ref 73), (1, .int v1)] [] M h D Q := by
  refine ev_aload_n (pc1 := 1) rfl rfl (TBof tbs_131 _ rfl) rfl ?_
  refine ev_iload_n (pc1 := 2) rfl (TBof tbs_131 _ rfl) rfl ?_
  refine ev_putZ (pc1 := 5) (ci := 4) (k := 13) (TBof tbs_131 _ rfl) rfl (fldof mo_131 fl_4_146) ltc_73 sh_73 nk_4_13 rfl rfl H.1 ?_
  replace H := H.2
  refine ev_iconst (pc1 := 6) (x := 0) (by decide) (TBof tbs_131 _ rfl) rfl ?_
  refine ev_istore_n (pc1 := 7) (L1 := [(2, .int 0), (0, .ref 73), (1, .int v1)]) (by rw [ml_131]; decide) rfl (TBof tbs_131 _ rfl) rfl ?_
  exact ev_le [1, 2, 0] rfl rfl H
set_option maxRecDepth 100000 in
theorem R_X4_reckon_7 {d : Nat} {v1 v2 : Int32} {M : Im} {h : Hm} {D : Dm} {Q : Im → Hm → Dm → Prop} (H : ((5776 ≤ v2) → (EvV d nX4_reckon 29 [(0, .ref 73), (1, .int v1), (2, .int 0)] [] M h D Q)) ∧ (¬ (5776 ≤ v2) → (vp_in v2 5776 ∧ (EvV d nX4_reckon 7 [(0, .ref 73), (1, .int v1), (2, .int (v2 + 1))] [] (up2 M 78 (v2.toNatClampNeg) (0 &&& 1)) h D Q)))) : EvV d nX4_reckon 7 [(0, .ref 73), (1, .int v1), (2, .int v2)] [] M h D Q := by
  refine ev_iload_n (pc1 := 8) rfl (TBof tbs_131 _ rfl) rfl ?_
  refine ev_sipush (pc1 := 11) (x := 5776) (by decide) (TBof tbs_131 _ rfl) rfl ?_
  refine ev_icmp (pc1 := 14) (t := 27) (TBof tbs_131 _ rfl) (by decide) rfl (fun c1 => ?_) (fun c1 => ?_)
  · replace H := H.1 c1
    refine ev_iconst (pc1 := 28) (x := 0) (by decide) (TBof tbs_131 _ rfl) rfl ?_
    refine ev_istore_n (pc1 := 29) (L1 := [(2, .int 0), (0, .ref 73), (1, .int v1)]) (by rw [ml_131]; decide) rfl (TBof tbs_131 _ rfl) rfl ?_
    exact ev_le [1, 2, 0] rfl rfl H
  · replace H := H.2 c1
    refine ev_aload_n (pc1 := 15) rfl rfl (TBof tbs_131 _ rfl) rfl ?_
    refine ev_getP (pc1 := 18) (ci := 4) (k := 4) (a := 78) (TBof tbs_131 _ rfl) rfl (fldof mo_131 fl_4_23) ltc_73 sh_73 nk_4_4 fp_4_4 (by decide) pf_73_4 ?_
    refine ev_iload_n (pc1 := 19) rfl (TBof tbs_131 _ rfl) rfl ?_
    refine ev_iconst (pc1 := 20) (x := 0) (by decide) (TBof tbs_131 _ rfl) rfl ?_
    refine ev_bastore (pc1 := 21) (n := 5776) (TBof tbs_131 _ rfl) rfl ltc_78 sh_78 H.1 ?_
    replace H := H.2
    refine ev_iinc (pc1 := 24) (n := 2) (c := 1) (x := v2) (cc := 1) (L1 := [(2, .int (v2 + 1)), (0, .ref 73), (1, .int v1)]) rfl (by rw [ml_131]; decide) (by decide) rfl (TBof tbs_131 _ rfl) rfl ?_
    refine ev_goto (pc1 := 7) (TBof tbs_131 _ rfl) (by decide) ?_
    exact ev_le [1, 2, 0] rfl rfl H
set_option maxRecDepth 100000 in
theorem R_X4_reckon_29 {d : Nat} {v1 v2 : Int32} {M : Im} {h : Hm} {D : Dm} {Q : Im → Hm → Dm → Prop} (H : ((76 ≤ v2) → (EvV d nX4_reckon 57 [(0, .ref 73), (1, .int v1), (2, .int 0)] [] M h D Q)) ∧ (¬ (76 ≤ v2) → (vp_in v2 76 ∧ (vp_in v2 76 ∧ (EvV d nX4_reckon 29 [(0, .ref 73), (1, .int v1), (2, .int (v2 + 1))] [] (up2 (up2 M 79 (v2.toNatClampNeg) (0 &&& 1)) 80 (v2.toNatClampNeg) (0 &&& 1)) h D Q))))) : EvV d nX4_reckon 29 [(0, .ref 73), (1, .int v1), (2, .int v2)] [] M h D Q := by
  refine ev_iload_n (pc1 := 30) rfl (TBof tbs_131 _ rfl) rfl ?_
  refine ev_bipush (pc1 := 32) (x := 76) (by decide) (TBof tbs_131 _ rfl) rfl ?_
  refine ev_icmp (pc1 := 35) (t := 55) (TBof tbs_131 _ rfl) (by decide) rfl (fun c1 => ?_) (fun c1 => ?_)
  · replace H := H.1 c1
    refine ev_iconst (pc1 := 56) (x := 0) (by decide) (TBof tbs_131 _ rfl) rfl ?_
    refine ev_istore_n (pc1 := 57) (L1 := [(2, .int 0), (0, .ref 73), (1, .int v1)]) (by rw [ml_131]; decide) rfl (TBof tbs_131 _ rfl) rfl ?_
    exact ev_le [1, 2, 0] rfl rfl H
  · replace H := H.2 c1
    refine ev_aload_n (pc1 := 36) rfl rfl (TBof tbs_131 _ rfl) rfl ?_
    refine ev_getP (pc1 := 39) (ci := 4) (k := 5) (a := 79) (TBof tbs_131 _ rfl) rfl (fldof mo_131 fl_4_27) ltc_73 sh_73 nk_4_5 fp_4_5 (by decide) pf_73_5 ?_
    refine ev_iload_n (pc1 := 40) rfl (TBof tbs_131 _ rfl) rfl ?_
    refine ev_iconst (pc1 := 41) (x := 0) (by decide) (TBof tbs_131 _ rfl) rfl ?_
    refine ev_bastore (pc1 := 42) (n := 76) (TBof tbs_131 _ rfl) rfl ltc_79 sh_79 H.1 ?_
    replace H := H.2
    refine ev_aload_n (pc1 := 43) rfl rfl (TBof tbs_131 _ rfl) rfl ?_
    refine ev_getP (pc1 := 46) (ci := 4) (k := 6) (a := 80) (TBof tbs_131 _ rfl) rfl (fldof mo_131 fl_4_30) ltc_73 sh_73 nk_4_6 fp_4_6 (by decide) pf_73_6 ?_
    refine ev_iload_n (pc1 := 47) rfl (TBof tbs_131 _ rfl) rfl ?_
    refine ev_iconst (pc1 := 48) (x := 0) (by decide) (TBof tbs_131 _ rfl) rfl ?_
    refine ev_bastore (pc1 := 49) (n := 76) (TBof tbs_131 _ rfl) rfl ltc_80 sh_80 H.1 ?_
    replace H := H.2
    refine ev_iinc (pc1 := 52) (n := 2) (c := 1) (x := v2) (cc := 1) (L1 := [(2, .int (v2 + 1)), (0, .ref 73), (1, .int v1)]) rfl (by rw [ml_131]; decide) (by decide) rfl (TBof tbs_131 _ rfl) rfl ?_
    refine ev_goto (pc1 := 29) (TBof tbs_131 _ rfl) (by decide) ?_
    exact ev_le [1, 2, 0] rfl rfl H
set_option maxRecDepth 100000 in
theorem R_X4_reckon_57 {d : Nat} {v1 v2 : Int32} {M : Im} {h : Hm} {D : Dm} {Q : Im → Hm → Dm → Prop} (H : vp_in 0 168 ∧ ((((M 74 ((0 : Int32).toNatClampNeg)) ≤ v2) → (EvV d nX4_reckon 93 [(0, .ref 73), (1, .int v1), (2, .int 0)] [] M h D Q)) ∧ (¬ ((M 74 ((0 : Int32).toNatClampNeg)) ≤ v2) → (CI d nX4_isClosed [.ref 73, .int v2] M h D (fun x2 M2 h2 D2 => ((x2 = 0) → (CV d nX4_markLiftings [.ref 73, .int v2] M2 h2 D2 (fun M4 h4 D4 => EvV d nX4_reckon 57 [(0, .ref 73), (1, .int v1), (2, .int (v2 + 1))] [] M4 h4 D4 Q))) ∧ (¬ (x2 = 0) → (CV d nX4_markOpening [.ref 73, .int v2] M2 h2 D2 (fun M5 h5 D5 => CV d nX4_markLiftings [.ref 73, .int v2] M5 h5 D5 (fun M6 h6 D6 => EvV d nX4_reckon 57 [(0, .ref 73), (1, .int v1), (2, .int (v2 + 1))] [] M6 h6 D6 Q))))))))) : EvV d nX4_reckon 57 [(0, .ref 73), (1, .int v1), (2, .int v2)] [] M h D Q := by
  refine ev_iload_n (pc1 := 58) rfl (TBof tbs_131 _ rfl) rfl ?_
  refine ev_aload_n (pc1 := 59) rfl rfl (TBof tbs_131 _ rfl) rfl ?_
  refine ev_getP (pc1 := 62) (ci := 4) (k := 0) (a := 74) (TBof tbs_131 _ rfl) rfl (fldof mo_131 fl_4_7) ltc_73 sh_73 nk_4_0 fp_4_0 (by decide) pf_73_0 ?_
  refine ev_iconst (pc1 := 63) (x := 0) (by decide) (TBof tbs_131 _ rfl) rfl ?_
  refine ev_iaload (pc1 := 64) (n := 168) (TBof tbs_131 _ rfl) rfl ltc_74 sh_74 H.1 ?_
  replace H := H.2
  refine ev_icmp (pc1 := 67) (t := 91) (TBof tbs_131 _ rfl) (by decide) rfl (fun c1 => ?_) (fun c1 => ?_)
  · replace H := H.1 c1
    refine ev_iconst (pc1 := 92) (x := 0) (by decide) (TBof tbs_131 _ rfl) rfl ?_
    refine ev_istore_n (pc1 := 93) (L1 := [(2, .int 0), (0, .ref 73), (1, .int v1)]) (by rw [ml_131]; decide) rfl (TBof tbs_131 _ rfl) rfl ?_
    exact ev_le [1, 2, 0] rfl rfl H
  · replace H := H.2 c1
    refine ev_aload_n (pc1 := 68) rfl rfl (TBof tbs_131 _ rfl) rfl ?_
    refine ev_iload_n (pc1 := 69) rfl (TBof tbs_131 _ rfl) rfl ?_
    refine ev_callvI (pc1 := 72) (as := [.int v2]) (r := []) (TBof tbs_131 _ rfl) rfl (lnkof mo_131 ln_4_149) rfl na_123 ltc_73 (sh_73.trans (by rw [mo_123])) (Nat.le_of_ble_eq_true rfl) H (fun x2 M2 h2 D2 H => ?_)
    refine ev_if (pc1 := 75) (t := 80) (TBof tbs_131 _ rfl) (by decide) rfl (fun c3 => ?_) (fun c3 => ?_)
    · replace H := H.1 c3
      refine ev_aload_n (pc1 := 81) rfl rfl (TBof tbs_131 _ rfl) rfl ?_
      refine ev_iload_n (pc1 := 82) rfl (TBof tbs_131 _ rfl) rfl ?_
      refine ev_callvV (pc1 := 85) (as := [.int v2]) (r := []) (TBof tbs_131 _ rfl) rfl (lnkof mo_131 ln_4_170) rfl na_129 ltc_73 (sh_73.trans (by rw [mo_129])) (Nat.le_of_ble_eq_true rfl) H (fun M4 h4 D4 H => ?_)
      refine ev_iinc (pc1 := 88) (n := 2) (c := 1) (x := v2) (cc := 1) (L1 := [(2, .int (v2 + 1)), (0, .ref 73), (1, .int v1)]) rfl (by rw [ml_131]; decide) (by decide) rfl (TBof tbs_131 _ rfl) rfl ?_
      refine ev_goto (pc1 := 57) (TBof tbs_131 _ rfl) (by decide) ?_
      exact ev_le [1, 2, 0] rfl rfl H
    · replace H := H.2 c3
      refine ev_aload_n (pc1 := 76) rfl rfl (TBof tbs_131 _ rfl) rfl ?_
      refine ev_iload_n (pc1 := 77) rfl (TBof tbs_131 _ rfl) rfl ?_
      refine ev_callvV (pc1 := 80) (as := [.int v2]) (r := []) (TBof tbs_131 _ rfl) rfl (lnkof mo_131 ln_4_166) rfl na_128 ltc_73 (sh_73.trans (by rw [mo_128])) (Nat.le_of_ble_eq_true rfl) H (fun M5 h5 D5 H => ?_)
      refine ev_aload_n (pc1 := 81) rfl rfl (TBof tbs_131 _ rfl) rfl ?_
      refine ev_iload_n (pc1 := 82) rfl (TBof tbs_131 _ rfl) rfl ?_
      refine ev_callvV (pc1 := 85) (as := [.int v2]) (r := []) (TBof tbs_131 _ rfl) rfl (lnkof mo_131 ln_4_170) rfl na_129 ltc_73 (sh_73.trans (by rw [mo_129])) (Nat.le_of_ble_eq_true rfl) H (fun M6 h6 D6 H => ?_)
      refine ev_iinc (pc1 := 88) (n := 2) (c := 1) (x := v2) (cc := 1) (L1 := [(2, .int (v2 + 1)), (0, .ref 73), (1, .int v1)]) rfl (by rw [ml_131]; decide) (by decide) rfl (TBof tbs_131 _ rfl) rfl ?_
      refine ev_goto (pc1 := 57) (TBof tbs_131 _ rfl) (by decide) ?_
      exact ev_le [1, 2, 0] rfl rfl H
set_option maxRecDepth 100000 in
theorem R_X4_reckon_93 {d : Nat} {v1 v2 : Int32} {M : Im} {h : Hm} {D : Dm} {Q : Im → Hm → Dm → Prop} (H : ((12 ≤ v2) → (EvV d nX4_reckon 112 [(0, .ref 73), (1, .int v1), (2, .int 1)] [] M h D Q)) ∧ (¬ (12 ≤ v2) → (CV d nX4_markTaking [.ref 73, .int v2] M h D (fun M2 h2 D2 => EvV d nX4_reckon 93 [(0, .ref 73), (1, .int v1), (2, .int (v2 + 1))] [] M2 h2 D2 Q)))) : EvV d nX4_reckon 93 [(0, .ref 73), (1, .int v1), (2, .int v2)] [] M h D Q := by
  refine ev_iload_n (pc1 := 94) rfl (TBof tbs_131 _ rfl) rfl ?_
  refine ev_bipush (pc1 := 96) (x := 12) (by decide) (TBof tbs_131 _ rfl) rfl ?_
  refine ev_icmp (pc1 := 99) (t := 110) (TBof tbs_131 _ rfl) (by decide) rfl (fun c1 => ?_) (fun c1 => ?_)
  · replace H := H.1 c1
    refine ev_iconst (pc1 := 111) (x := 1) (by decide) (TBof tbs_131 _ rfl) rfl ?_
    refine ev_istore_n (pc1 := 112) (L1 := [(2, .int 1), (0, .ref 73), (1, .int v1)]) (by rw [ml_131]; decide) rfl (TBof tbs_131 _ rfl) rfl ?_
    exact ev_le [1, 2, 0] rfl rfl H
  · replace H := H.2 c1
    refine ev_aload_n (pc1 := 100) rfl rfl (TBof tbs_131 _ rfl) rfl ?_
    refine ev_iload_n (pc1 := 101) rfl (TBof tbs_131 _ rfl) rfl ?_
    refine ev_callvV (pc1 := 104) (as := [.int v2]) (r := []) (TBof tbs_131 _ rfl) rfl (lnkof mo_131 ln_4_173) rfl na_130 ltc_73 (sh_73.trans (by rw [mo_130])) (Nat.le_of_ble_eq_true rfl) H (fun M2 h2 D2 H => ?_)
    refine ev_iinc (pc1 := 107) (n := 2) (c := 1) (x := v2) (cc := 1) (L1 := [(2, .int (v2 + 1)), (0, .ref 73), (1, .int v1)]) rfl (by rw [ml_131]; decide) (by decide) rfl (TBof tbs_131 _ rfl) rfl ?_
    refine ev_goto (pc1 := 93) (TBof tbs_131 _ rfl) (by decide) ?_
    exact ev_le [1, 2, 0] rfl rfl H
set_option maxRecDepth 100000 in
theorem R_X4_reckon_112 {d : Nat} {v1 v2 : Int32} {M : Im} {h : Hm} {D : Dm} {Q : Im → Hm → Dm → Prop} (H : ((v2 = 0) → (Q M h D)) ∧ (¬ (v2 = 0) → (EvV d nX4_reckon 120 [(0, .ref 73), (1, .int v1), (2, .int 0), (3, .int 0)] [] M h D Q))) : EvV d nX4_reckon 112 [(0, .ref 73), (1, .int v1), (2, .int v2)] [] M h D Q := by
  refine ev_iload_n (pc1 := 113) rfl (TBof tbs_131 _ rfl) rfl ?_
  refine ev_if (pc1 := 116) (t := 170) (TBof tbs_131 _ rfl) (by decide) rfl (fun c1 => ?_) (fun c1 => ?_)
  · replace H := H.1 c1
    exact ev_return (TBof tbs_131 _ rfl) rt_131 ⟨rfl, H⟩
  · replace H := H.2 c1
    refine ev_iconst (pc1 := 117) (x := 0) (by decide) (TBof tbs_131 _ rfl) rfl ?_
    refine ev_istore_n (pc1 := 118) (L1 := [(2, .int 0), (0, .ref 73), (1, .int v1)]) (by rw [ml_131]; decide) rfl (TBof tbs_131 _ rfl) rfl ?_
    refine ev_iconst (pc1 := 119) (x := 0) (by decide) (TBof tbs_131 _ rfl) rfl ?_
    refine ev_istore_n (pc1 := 120) (L1 := [(3, .int 0), (2, .int 0), (0, .ref 73), (1, .int v1)]) (by rw [ml_131]; decide) rfl (TBof tbs_131 _ rfl) rfl ?_
    exact ev_le [2, 3, 1, 0] rfl rfl H
set_option maxRecDepth 100000 in
theorem R_X4_reckon_120 {d : Nat} {v1 v2 v3 : Int32} {M : Im} {h : Hm} {D : Dm} {Q : Im → Hm → Dm → Prop} (H : ((76 ≤ v3) → (EvV d nX4_reckon 112 [(0, .ref 73), (1, .int v1), (2, .int v2)] [] M h D Q)) ∧ (¬ (76 ≤ v3) → (vp_in v3 76 ∧ (((¬ ((M 80 (v3.toNatClampNeg)) = 0)) → (EvV d nX4_reckon 120 [(0, .ref 73), (1, .int v1), (2, .int v2), (3, .int (v3 + 1))] [] M h D Q)) ∧ (¬ (¬ ((M 80 (v3.toNatClampNeg)) = 0)) → (vp_in v3 76 ∧ (((¬ ((M 79 (v3.toNatClampNeg)) = 0)) → (EvV d nX4_reckon 120 [(0, .ref 73), (1, .int v1), (2, .int v2), (3, .int (v3 + 1))] [] M h D Q)) ∧ (¬ (¬ ((M 79 (v3.toNatClampNeg)) = 0)) → (CI d nX4_areAll [.ref 73, .int v3] M h D (fun x4 M4 h4 D4 => ((x4 = 0) → (EvV d nX4_reckon 120 [(0, .ref 73), (1, .int v1), (2, .int v2), (3, .int (v3 + 1))] [] M4 h4 D4 Q)) ∧ (¬ (x4 = 0) → (vp_in v3 76 ∧ (EvV d nX4_reckon 120 [(0, .ref 73), (1, .int v1), (2, .int 1), (3, .int (v3 + 1))] [] (up2 M4 80 (v3.toNatClampNeg) (1 &&& 1)) h4 D4 Q))))))))))))) : EvV d nX4_reckon 120 [(0, .ref 73), (1, .int v1), (2, .int v2), (3, .int v3)] [] M h D Q := by
  refine ev_iload_n (pc1 := 121) rfl (TBof tbs_131 _ rfl) rfl ?_
  refine ev_bipush (pc1 := 123) (x := 76) (by decide) (TBof tbs_131 _ rfl) rfl ?_
  refine ev_icmp (pc1 := 126) (t := 167) (TBof tbs_131 _ rfl) (by decide) rfl (fun c1 => ?_) (fun c1 => ?_)
  · replace H := H.1 c1
    refine ev_goto (pc1 := 112) (TBof tbs_131 _ rfl) (by decide) ?_
    exact ev_le [0, 1, 2] rfl rfl H
  · replace H := H.2 c1
    refine ev_aload_n (pc1 := 127) rfl rfl (TBof tbs_131 _ rfl) rfl ?_
    refine ev_getP (pc1 := 130) (ci := 4) (k := 6) (a := 80) (TBof tbs_131 _ rfl) rfl (fldof mo_131 fl_4_30) ltc_73 sh_73 nk_4_6 fp_4_6 (by decide) pf_73_6 ?_
    refine ev_iload_n (pc1 := 131) rfl (TBof tbs_131 _ rfl) rfl ?_
    refine ev_baload (pc1 := 132) (n := 76) (TBof tbs_131 _ rfl) rfl ltc_80 sh_80 H.1 ?_
    replace H := H.2
    refine ev_if (pc1 := 135) (t := 161) (TBof tbs_131 _ rfl) (by decide) rfl (fun c2 => ?_) (fun c2 => ?_)
    · replace H := H.1 c2
      refine ev_iinc (pc1 := 164) (n := 3) (c := 1) (x := v3) (cc := 1) (L1 := [(3, .int (v3 + 1)), (0, .ref 73), (1, .int v1), (2, .int v2)]) rfl (by rw [ml_131]; decide) (by decide) rfl (TBof tbs_131 _ rfl) rfl ?_
      refine ev_goto (pc1 := 120) (TBof tbs_131 _ rfl) (by decide) ?_
      exact ev_le [1, 2, 3, 0] rfl rfl H
    · replace H := H.2 c2
      refine ev_aload_n (pc1 := 136) rfl rfl (TBof tbs_131 _ rfl) rfl ?_
      refine ev_getP (pc1 := 139) (ci := 4) (k := 5) (a := 79) (TBof tbs_131 _ rfl) rfl (fldof mo_131 fl_4_27) ltc_73 sh_73 nk_4_5 fp_4_5 (by decide) pf_73_5 ?_
      refine ev_iload_n (pc1 := 140) rfl (TBof tbs_131 _ rfl) rfl ?_
      refine ev_baload (pc1 := 141) (n := 76) (TBof tbs_131 _ rfl) rfl ltc_79 sh_79 H.1 ?_
      replace H := H.2
      refine ev_if (pc1 := 144) (t := 161) (TBof tbs_131 _ rfl) (by decide) rfl (fun c3 => ?_) (fun c3 => ?_)
      · replace H := H.1 c3
        refine ev_iinc (pc1 := 164) (n := 3) (c := 1) (x := v3) (cc := 1) (L1 := [(3, .int (v3 + 1)), (0, .ref 73), (1, .int v1), (2, .int v2)]) rfl (by rw [ml_131]; decide) (by decide) rfl (TBof tbs_131 _ rfl) rfl ?_
        refine ev_goto (pc1 := 120) (TBof tbs_131 _ rfl) (by decide) ?_
        exact ev_le [1, 2, 3, 0] rfl rfl H
      · replace H := H.2 c3
        refine ev_aload_n (pc1 := 145) rfl rfl (TBof tbs_131 _ rfl) rfl ?_
        refine ev_iload_n (pc1 := 146) rfl (TBof tbs_131 _ rfl) rfl ?_
        refine ev_callvI (pc1 := 149) (as := [.int v3]) (r := []) (TBof tbs_131 _ rfl) rfl (lnkof mo_131 ln_4_176) rfl na_132 ltc_73 (sh_73.trans (by rw [mo_132])) (Nat.le_of_ble_eq_true rfl) H (fun x4 M4 h4 D4 H => ?_)
        refine ev_if (pc1 := 152) (t := 161) (TBof tbs_131 _ rfl) (by decide) rfl (fun c5 => ?_) (fun c5 => ?_)
        · replace H := H.1 c5
          refine ev_iinc (pc1 := 164) (n := 3) (c := 1) (x := v3) (cc := 1) (L1 := [(3, .int (v3 + 1)), (0, .ref 73), (1, .int v1), (2, .int v2)]) rfl (by rw [ml_131]; decide) (by decide) rfl (TBof tbs_131 _ rfl) rfl ?_
          refine ev_goto (pc1 := 120) (TBof tbs_131 _ rfl) (by decide) ?_
          exact ev_le [1, 2, 3, 0] rfl rfl H
        · replace H := H.2 c5
          refine ev_aload_n (pc1 := 153) rfl rfl (TBof tbs_131 _ rfl) rfl ?_
          refine ev_getP (pc1 := 156) (ci := 4) (k := 6) (a := 80) (TBof tbs_131 _ rfl) rfl (fldof mo_131 fl_4_30) ltc_73 sh_73 nk_4_6 fp_4_6 (by decide) pf_73_6 ?_
          refine ev_iload_n (pc1 := 157) rfl (TBof tbs_131 _ rfl) rfl ?_
          refine ev_iconst (pc1 := 158) (x := 1) (by decide) (TBof tbs_131 _ rfl) rfl ?_
          refine ev_bastore (pc1 := 159) (n := 76) (TBof tbs_131 _ rfl) rfl ltc_80 sh_80 H.1 ?_
          replace H := H.2
          refine ev_iconst (pc1 := 160) (x := 1) (by decide) (TBof tbs_131 _ rfl) rfl ?_
          refine ev_istore_n (pc1 := 161) (L1 := [(2, .int 1), (0, .ref 73), (1, .int v1), (3, .int v3)]) (by rw [ml_131]; decide) rfl (TBof tbs_131 _ rfl) rfl ?_
          refine ev_iinc (pc1 := 164) (n := 3) (c := 1) (x := v3) (cc := 1) (L1 := [(3, .int (v3 + 1)), (2, .int 1), (0, .ref 73), (1, .int v1)]) rfl (by rw [ml_131]; decide) (by decide) rfl (TBof tbs_131 _ rfl) rfl ?_
          refine ev_goto (pc1 := 120) (TBof tbs_131 _ rfl) (by decide) ?_
          exact ev_le [2, 3, 1, 0] rfl rfl H
set_option maxRecDepth 100000 in
theorem R_X4_areAll_0 {d : Nat} {v1 : Int32} {M : Im} {h : Hm} {D : Dm} {Q : Int32 → Im → Hm → Dm → Prop} (H : EvI d nX4_areAll 4 [(0, .ref 73), (1, .int v1), (2, .int 1), (3, .int 0)] [] M h D Q) : EvI d nX4_areAll 0 [(0, .ref 73), (1, .int v1)] [] M h D Q := by
  refine ev_iconst (pc1 := 1) (x := 1) (by decide) (TBof tbs_132 _ rfl) rfl ?_
  refine ev_istore_n (pc1 := 2) (L1 := [(2, .int 1), (0, .ref 73), (1, .int v1)]) (by rw [ml_132]; decide) rfl (TBof tbs_132 _ rfl) rfl ?_
  refine ev_iconst (pc1 := 3) (x := 0) (by decide) (TBof tbs_132 _ rfl) rfl ?_
  refine ev_istore_n (pc1 := 4) (L1 := [(3, .int 0), (2, .int 1), (0, .ref 73), (1, .int v1)]) (by rw [ml_132]; decide) rfl (TBof tbs_132 _ rfl) rfl ?_
  exact ev_le [2, 3, 1, 0] rfl rfl H
set_option maxRecDepth 100000 in
theorem R_X4_areAll_4 {d : Nat} {v1 v2 v3 : Int32} {M : Im} {h : Hm} {D : Dm} {Q : Int32 → Im → Hm → Dm → Prop} (H : ((76 ≤ v3) → ((v2 = 0 ∨ v2 = 1) ∧ Q v2 M h D)) ∧ (¬ (76 ≤ v3) → (((v2 = 0) → ((v2 = 0 ∨ v2 = 1) ∧ Q v2 M h D)) ∧ (¬ (v2 = 0) → (vp_in ((76 * v1) + v3) 5776 ∧ ((((M 78 (((76 * v1) + v3).toNatClampNeg)) = 0) → (EvI d nX4_areAll 4 [(0, .ref 73), (1, .int v1), (2, .int 1), (3, .int (v3 + 1))] [] M h D Q)) ∧ (¬ ((M 78 (((76 * v1) + v3).toNatClampNeg)) = 0) → (vp_in v3 76 ∧ ((((M 80 (v3.toNatClampNeg)) = 0) → (EvI d nX4_areAll 4 [(0, .ref 73), (1, .int v1), (2, .int 0), (3, .int (v3 + 1))] [] M h D Q)) ∧ (¬ ((M 80 (v3.toNatClampNeg)) = 0) → (EvI d nX4_areAll 4 [(0, .ref 73), (1, .int v1), (2, .int 1), (3, .int (v3 + 1))] [] M h D Q))))))))))) : EvI d nX4_areAll 4 [(0, .ref 73), (1, .int v1), (2, .int v2), (3, .int v3)] [] M h D Q := by
  refine ev_iload_n (pc1 := 5) rfl (TBof tbs_132 _ rfl) rfl ?_
  refine ev_bipush (pc1 := 7) (x := 76) (by decide) (TBof tbs_132 _ rfl) rfl ?_
  refine ev_icmp (pc1 := 10) (t := 49) (TBof tbs_132 _ rfl) (by decide) rfl (fun c1 => ?_) (fun c1 => ?_)
  · replace H := H.1 c1
    refine ev_iload_n (pc1 := 50) rfl (TBof tbs_132 _ rfl) rfl ?_
    exact ev_ireturn (TBof tbs_132 _ rfl) (retI_z rt_132 H.1) ⟨_, rfl, H.2⟩
  · replace H := H.2 c1
    refine ev_iload_n (pc1 := 11) rfl (TBof tbs_132 _ rfl) rfl ?_
    refine ev_if (pc1 := 14) (t := 49) (TBof tbs_132 _ rfl) (by decide) rfl (fun c2 => ?_) (fun c2 => ?_)
    · replace H := H.1 c2
      refine ev_iload_n (pc1 := 50) rfl (TBof tbs_132 _ rfl) rfl ?_
      exact ev_ireturn (TBof tbs_132 _ rfl) (retI_z rt_132 H.1) ⟨_, rfl, H.2⟩
    · replace H := H.2 c2
      refine ev_aload_n (pc1 := 15) rfl rfl (TBof tbs_132 _ rfl) rfl ?_
      refine ev_getP (pc1 := 18) (ci := 4) (k := 4) (a := 78) (TBof tbs_132 _ rfl) rfl (fldof mo_132 fl_4_23) ltc_73 sh_73 nk_4_4 fp_4_4 (by decide) pf_73_4 ?_
      refine ev_bipush (pc1 := 20) (x := 76) (by decide) (TBof tbs_132 _ rfl) rfl ?_
      refine ev_iload_n (pc1 := 21) rfl (TBof tbs_132 _ rfl) rfl ?_
      refine ev_imul (pc1 := 22) (TBof tbs_132 _ rfl) rfl ?_
      refine ev_iload_n (pc1 := 23) rfl (TBof tbs_132 _ rfl) rfl ?_
      refine ev_iadd (pc1 := 24) (TBof tbs_132 _ rfl) rfl ?_
      refine ev_baload (pc1 := 25) (n := 5776) (TBof tbs_132 _ rfl) rfl ltc_78 sh_78 H.1 ?_
      replace H := H.2
      refine ev_if (pc1 := 28) (t := 37) (TBof tbs_132 _ rfl) (by decide) rfl (fun c3 => ?_) (fun c3 => ?_)
      · replace H := H.1 c3
        refine ev_iconst (pc1 := 38) (x := 1) (by decide) (TBof tbs_132 _ rfl) rfl ?_
        refine ev_goto (pc1 := 42) (TBof tbs_132 _ rfl) (by decide) ?_
        refine ev_istore_n (pc1 := 43) (L1 := [(2, .int 1), (0, .ref 73), (1, .int v1), (3, .int v3)]) (by rw [ml_132]; decide) rfl (TBof tbs_132 _ rfl) rfl ?_
        refine ev_iinc (pc1 := 46) (n := 3) (c := 1) (x := v3) (cc := 1) (L1 := [(3, .int (v3 + 1)), (2, .int 1), (0, .ref 73), (1, .int v1)]) rfl (by rw [ml_132]; decide) (by decide) rfl (TBof tbs_132 _ rfl) rfl ?_
        refine ev_goto (pc1 := 4) (TBof tbs_132 _ rfl) (by decide) ?_
        exact ev_le [2, 3, 1, 0] rfl rfl H
      · replace H := H.2 c3
        refine ev_aload_n (pc1 := 29) rfl rfl (TBof tbs_132 _ rfl) rfl ?_
        refine ev_getP (pc1 := 32) (ci := 4) (k := 6) (a := 80) (TBof tbs_132 _ rfl) rfl (fldof mo_132 fl_4_30) ltc_73 sh_73 nk_4_6 fp_4_6 (by decide) pf_73_6 ?_
        refine ev_iload_n (pc1 := 33) rfl (TBof tbs_132 _ rfl) rfl ?_
        refine ev_baload (pc1 := 34) (n := 76) (TBof tbs_132 _ rfl) rfl ltc_80 sh_80 H.1 ?_
        replace H := H.2
        refine ev_if (pc1 := 37) (t := 41) (TBof tbs_132 _ rfl) (by decide) rfl (fun c4 => ?_) (fun c4 => ?_)
        · replace H := H.1 c4
          refine ev_iconst (pc1 := 42) (x := 0) (by decide) (TBof tbs_132 _ rfl) rfl ?_
          refine ev_istore_n (pc1 := 43) (L1 := [(2, .int 0), (0, .ref 73), (1, .int v1), (3, .int v3)]) (by rw [ml_132]; decide) rfl (TBof tbs_132 _ rfl) rfl ?_
          refine ev_iinc (pc1 := 46) (n := 3) (c := 1) (x := v3) (cc := 1) (L1 := [(3, .int (v3 + 1)), (2, .int 0), (0, .ref 73), (1, .int v1)]) rfl (by rw [ml_132]; decide) (by decide) rfl (TBof tbs_132 _ rfl) rfl ?_
          refine ev_goto (pc1 := 4) (TBof tbs_132 _ rfl) (by decide) ?_
          exact ev_le [2, 3, 1, 0] rfl rfl H
        · replace H := H.2 c4
          refine ev_iconst (pc1 := 38) (x := 1) (by decide) (TBof tbs_132 _ rfl) rfl ?_
          refine ev_goto (pc1 := 42) (TBof tbs_132 _ rfl) (by decide) ?_
          refine ev_istore_n (pc1 := 43) (L1 := [(2, .int 1), (0, .ref 73), (1, .int v1), (3, .int v3)]) (by rw [ml_132]; decide) rfl (TBof tbs_132 _ rfl) rfl ?_
          refine ev_iinc (pc1 := 46) (n := 3) (c := 1) (x := v3) (cc := 1) (L1 := [(3, .int (v3 + 1)), (2, .int 1), (0, .ref 73), (1, .int v1)]) rfl (by rw [ml_132]; decide) (by decide) rfl (TBof tbs_132 _ rfl) rfl ?_
          refine ev_goto (pc1 := 4) (TBof tbs_132 _ rfl) (by decide) ?_
          exact ev_le [2, 3, 1, 0] rfl rfl H
set_option maxRecDepth 100000 in
theorem R_X4_gather_0 {d : Nat} {v1 : Int32} {M : Im} {h : Hm} {D : Dm} {Q : Int32 → Im → Hm → Dm → Prop} (H : EvI d nX4_gather 4 [(0, .ref 73), (1, .int v1), (2, .int 1), (3, .int 0)] [] M h D Q) : EvI d nX4_gather 0 [(0, .ref 73), (1, .int v1)] [] M h D Q := by
  refine ev_iconst (pc1 := 1) (x := 1) (by decide) (TBof tbs_133 _ rfl) rfl ?_
  refine ev_istore_n (pc1 := 2) (L1 := [(2, .int 1), (0, .ref 73), (1, .int v1)]) (by rw [ml_133]; decide) rfl (TBof tbs_133 _ rfl) rfl ?_
  refine ev_iconst (pc1 := 3) (x := 0) (by decide) (TBof tbs_133 _ rfl) rfl ?_
  refine ev_istore_n (pc1 := 4) (L1 := [(3, .int 0), (2, .int 1), (0, .ref 73), (1, .int v1)]) (by rw [ml_133]; decide) rfl (TBof tbs_133 _ rfl) rfl ?_
  exact ev_le [2, 3, 1, 0] rfl rfl H
set_option maxRecDepth 100000 in
theorem R_X4_gather_4 {d : Nat} {v1 v2 v3 : Int32} {M : Im} {h : Hm} {D : Dm} {Q : Int32 → Im → Hm → Dm → Prop} (H : ((76 ≤ v3) → (CI d nX4_isClosed [.ref 73, .int v1] M h D (fun x2 M2 h2 D2 => ((x2 = 0) → (CI d nX4_d [.int v1] M2 h2 D2 (fun x4 M4 h4 D4 => vp_in (x4 + 0) 168 ∧ (EvI d nX4_gather 57 [(0, .ref 73), (1, .int v1), (2, .int v2), (3, .int (M4 74 ((x4 + 0).toNatClampNeg)))] [] M4 h4 D4 Q)))) ∧ (¬ (x2 = 0) → (vp_in v1 76 ∧ (vp_in v1 76 ∧ (CI d nX4_d [.int v1] (up2 M2 81 (v1.toNatClampNeg) (1 &&& 1)) h2 D2 (fun x5 M5 h5 D5 => vp_in (x5 + 0) 168 ∧ (EvI d nX4_gather 57 [(0, .ref 73), (1, .int v1), (2, .int ((up2 M2 81 (v1.toNatClampNeg) (1 &&& 1)) 80 (v1.toNatClampNeg))), (3, .int (M5 74 ((x5 + 0).toNatClampNeg)))] [] M5 h5 D5 Q))))))))) ∧ (¬ (76 ≤ v3) → (vp_in v3 76 ∧ (EvI d nX4_gather 4 [(0, .ref 73), (1, .int v1), (2, .int v2), (3, .int (v3 + 1))] [] (up2 M 81 (v3.toNatClampNeg) (0 &&& 1)) h D Q)))) : EvI d nX4_gather 4 [(0, .ref 73), (1, .int v1), (2, .int v2), (3, .int v3)] [] M h D Q := by
  refine ev_iload_n (pc1 := 5) rfl (TBof tbs_133 _ rfl) rfl ?_
  refine ev_bipush (pc1 := 7) (x := 76) (by decide) (TBof tbs_133 _ rfl) rfl ?_
  refine ev_icmp (pc1 := 10) (t := 23) (TBof tbs_133 _ rfl) (by decide) rfl (fun c1 => ?_) (fun c1 => ?_)
  · replace H := H.1 c1
    refine ev_aload_n (pc1 := 24) rfl rfl (TBof tbs_133 _ rfl) rfl ?_
    refine ev_iload_n (pc1 := 25) rfl (TBof tbs_133 _ rfl) rfl ?_
    refine ev_callvI (pc1 := 28) (as := [.int v1]) (r := []) (TBof tbs_133 _ rfl) rfl (lnkof mo_133 ln_4_149) rfl na_123 ltc_73 (sh_73.trans (by rw [mo_123])) (Nat.le_of_ble_eq_true rfl) H (fun x2 M2 h2 D2 H => ?_)
    refine ev_if (pc1 := 31) (t := 45) (TBof tbs_133 _ rfl) (by decide) rfl (fun c3 => ?_) (fun c3 => ?_)
    · replace H := H.1 c3
      refine ev_aload_n (pc1 := 46) rfl rfl (TBof tbs_133 _ rfl) rfl ?_
      refine ev_getP (pc1 := 49) (ci := 4) (k := 0) (a := 74) (TBof tbs_133 _ rfl) rfl (fldof mo_133 fl_4_7) ltc_73 sh_73 nk_4_0 fp_4_0 (by decide) pf_73_0 ?_
      refine ev_iload_n (pc1 := 50) rfl (TBof tbs_133 _ rfl) rfl ?_
      refine ev_callsI (pc1 := 53) (as := [.int v1]) (r := [.ref 74]) (TBof tbs_133 _ rfl) rfl (lnkof mo_133 ln_4_55) (Or.inl rfl) rfl na_86 (Nat.le_of_ble_eq_true rfl) H (fun x4 M4 h4 D4 H => ?_)
      refine ev_iconst (pc1 := 54) (x := 0) (by decide) (TBof tbs_133 _ rfl) rfl ?_
      refine ev_iadd (pc1 := 55) (TBof tbs_133 _ rfl) rfl ?_
      refine ev_iaload (pc1 := 56) (n := 168) (TBof tbs_133 _ rfl) rfl ltc_74 sh_74 H.1 ?_
      replace H := H.2
      refine ev_istore_n (pc1 := 57) (L1 := [(3, .int (M4 74 ((x4 + 0).toNatClampNeg))), (0, .ref 73), (1, .int v1), (2, .int v2)]) (by rw [ml_133]; decide) rfl (TBof tbs_133 _ rfl) rfl ?_
      exact ev_le [1, 2, 3, 0] rfl rfl H
    · replace H := H.2 c3
      refine ev_aload_n (pc1 := 32) rfl rfl (TBof tbs_133 _ rfl) rfl ?_
      refine ev_getP (pc1 := 35) (ci := 4) (k := 7) (a := 81) (TBof tbs_133 _ rfl) rfl (fldof mo_133 fl_4_33) ltc_73 sh_73 nk_4_7 fp_4_7 (by decide) pf_73_7 ?_
      refine ev_iload_n (pc1 := 36) rfl (TBof tbs_133 _ rfl) rfl ?_
      refine ev_iconst (pc1 := 37) (x := 1) (by decide) (TBof tbs_133 _ rfl) rfl ?_
      refine ev_bastore (pc1 := 38) (n := 76) (TBof tbs_133 _ rfl) rfl ltc_81 sh_81 H.1 ?_
      replace H := H.2
      refine ev_aload_n (pc1 := 39) rfl rfl (TBof tbs_133 _ rfl) rfl ?_
      refine ev_getP (pc1 := 42) (ci := 4) (k := 6) (a := 80) (TBof tbs_133 _ rfl) rfl (fldof mo_133 fl_4_30) ltc_73 sh_73 nk_4_6 fp_4_6 (by decide) pf_73_6 ?_
      refine ev_iload_n (pc1 := 43) rfl (TBof tbs_133 _ rfl) rfl ?_
      refine ev_baload (pc1 := 44) (n := 76) (TBof tbs_133 _ rfl) rfl ltc_80 sh_80 H.1 ?_
      replace H := H.2
      refine ev_istore_n (pc1 := 45) (L1 := [(2, .int ((up2 M2 81 (v1.toNatClampNeg) (1 &&& 1)) 80 (v1.toNatClampNeg))), (0, .ref 73), (1, .int v1), (3, .int v3)]) (by rw [ml_133]; decide) rfl (TBof tbs_133 _ rfl) rfl ?_
      refine ev_aload_n (pc1 := 46) rfl rfl (TBof tbs_133 _ rfl) rfl ?_
      refine ev_getP (pc1 := 49) (ci := 4) (k := 0) (a := 74) (TBof tbs_133 _ rfl) rfl (fldof mo_133 fl_4_7) ltc_73 sh_73 nk_4_0 fp_4_0 (by decide) pf_73_0 ?_
      refine ev_iload_n (pc1 := 50) rfl (TBof tbs_133 _ rfl) rfl ?_
      refine ev_callsI (pc1 := 53) (as := [.int v1]) (r := [.ref 74]) (TBof tbs_133 _ rfl) rfl (lnkof mo_133 ln_4_55) (Or.inl rfl) rfl na_86 (Nat.le_of_ble_eq_true rfl) H (fun x5 M5 h5 D5 H => ?_)
      refine ev_iconst (pc1 := 54) (x := 0) (by decide) (TBof tbs_133 _ rfl) rfl ?_
      refine ev_iadd (pc1 := 55) (TBof tbs_133 _ rfl) rfl ?_
      refine ev_iaload (pc1 := 56) (n := 168) (TBof tbs_133 _ rfl) rfl ltc_74 sh_74 H.1 ?_
      replace H := H.2
      refine ev_istore_n (pc1 := 57) (L1 := [(3, .int (M5 74 ((x5 + 0).toNatClampNeg))), (2, .int ((up2 M2 81 (v1.toNatClampNeg) (1 &&& 1)) 80 (v1.toNatClampNeg))), (0, .ref 73), (1, .int v1)]) (by rw [ml_133]; decide) rfl (TBof tbs_133 _ rfl) rfl ?_
      exact ev_le [2, 3, 1, 0] rfl rfl H
  · replace H := H.2 c1
    refine ev_aload_n (pc1 := 11) rfl rfl (TBof tbs_133 _ rfl) rfl ?_
    refine ev_getP (pc1 := 14) (ci := 4) (k := 7) (a := 81) (TBof tbs_133 _ rfl) rfl (fldof mo_133 fl_4_33) ltc_73 sh_73 nk_4_7 fp_4_7 (by decide) pf_73_7 ?_
    refine ev_iload_n (pc1 := 15) rfl (TBof tbs_133 _ rfl) rfl ?_
    refine ev_iconst (pc1 := 16) (x := 0) (by decide) (TBof tbs_133 _ rfl) rfl ?_
    refine ev_bastore (pc1 := 17) (n := 76) (TBof tbs_133 _ rfl) rfl ltc_81 sh_81 H.1 ?_
    replace H := H.2
    refine ev_iinc (pc1 := 20) (n := 3) (c := 1) (x := v3) (cc := 1) (L1 := [(3, .int (v3 + 1)), (0, .ref 73), (1, .int v1), (2, .int v2)]) rfl (by rw [ml_133]; decide) (by decide) rfl (TBof tbs_133 _ rfl) rfl ?_
    refine ev_goto (pc1 := 4) (TBof tbs_133 _ rfl) (by decide) ?_
    exact ev_le [1, 2, 3, 0] rfl rfl H
set_option maxRecDepth 100000 in
theorem R_X4_gather_57 {d : Nat} {v1 v2 v3 : Int32} {M : Im} {h : Hm} {D : Dm} {Q : Int32 → Im → Hm → Dm → Prop} (H : ((v3 = (-5)) → (EvI d nX4_gather 135 [(0, .ref 73), (1, .int v1), (2, .int v2), (3, .int 1)] [] M h D Q)) ∧ (¬ (v3 = (-5)) → (vp_in v3 76 ∧ (((¬ ((M 81 (v3.toNatClampNeg)) = 0)) → (EvI d nX4_gather 90 [(0, .ref 73), (1, .int v1), (2, .int v2), (3, .int v3)] [.int 1, .int v3, .ref 81] M h D Q)) ∧ (¬ (¬ ((M 81 (v3.toNatClampNeg)) = 0)) → (CI d nX4_isClosed [.ref 73, .int v3] M h D (fun x3 M3 h3 D3 => ((x3 = 0) → (EvI d nX4_gather 90 [(0, .ref 73), (1, .int v1), (2, .int v2), (3, .int v3)] [.int 0, .int v3, .ref 81] M3 h3 D3 Q)) ∧ (¬ (x3 = 0) → (EvI d nX4_gather 90 [(0, .ref 73), (1, .int v1), (2, .int v2), (3, .int v3)] [.int 1, .int v3, .ref 81] M3 h3 D3 Q))))))))) : EvI d nX4_gather 57 [(0, .ref 73), (1, .int v1), (2, .int v2), (3, .int v3)] [] M h D Q := by
  refine ev_iload_n (pc1 := 58) rfl (TBof tbs_133 _ rfl) rfl ?_
  refine ev_bipush (pc1 := 60) (x := (-5)) (by decide) (TBof tbs_133 _ rfl) rfl ?_
  refine ev_icmp (pc1 := 63) (t := 133) (TBof tbs_133 _ rfl) (by decide) rfl (fun c1 => ?_) (fun c1 => ?_)
  · replace H := H.1 c1
    refine ev_iconst (pc1 := 134) (x := 1) (by decide) (TBof tbs_133 _ rfl) rfl ?_
    refine ev_istore_n (pc1 := 135) (L1 := [(3, .int 1), (0, .ref 73), (1, .int v1), (2, .int v2)]) (by rw [ml_133]; decide) rfl (TBof tbs_133 _ rfl) rfl ?_
    exact ev_le [1, 2, 3, 0] rfl rfl H
  · replace H := H.2 c1
    refine ev_aload_n (pc1 := 64) rfl rfl (TBof tbs_133 _ rfl) rfl ?_
    refine ev_getP (pc1 := 67) (ci := 4) (k := 7) (a := 81) (TBof tbs_133 _ rfl) rfl (fldof mo_133 fl_4_33) ltc_73 sh_73 nk_4_7 fp_4_7 (by decide) pf_73_7 ?_
    refine ev_iload_n (pc1 := 68) rfl (TBof tbs_133 _ rfl) rfl ?_
    refine ev_aload_n (pc1 := 69) rfl rfl (TBof tbs_133 _ rfl) rfl ?_
    refine ev_getP (pc1 := 72) (ci := 4) (k := 7) (a := 81) (TBof tbs_133 _ rfl) rfl (fldof mo_133 fl_4_33) ltc_73 sh_73 nk_4_7 fp_4_7 (by decide) pf_73_7 ?_
    refine ev_iload_n (pc1 := 73) rfl (TBof tbs_133 _ rfl) rfl ?_
    refine ev_baload (pc1 := 74) (n := 76) (TBof tbs_133 _ rfl) rfl ltc_81 sh_81 H.1 ?_
    replace H := H.2
    refine ev_if (pc1 := 77) (t := 85) (TBof tbs_133 _ rfl) (by decide) rfl (fun c2 => ?_) (fun c2 => ?_)
    · replace H := H.1 c2
      refine ev_iconst (pc1 := 86) (x := 1) (by decide) (TBof tbs_133 _ rfl) rfl ?_
      refine ev_goto (pc1 := 90) (TBof tbs_133 _ rfl) (by decide) ?_
      exact ev_le [0, 1, 2, 3] rfl rfl H
    · replace H := H.2 c2
      refine ev_aload_n (pc1 := 78) rfl rfl (TBof tbs_133 _ rfl) rfl ?_
      refine ev_iload_n (pc1 := 79) rfl (TBof tbs_133 _ rfl) rfl ?_
      refine ev_callvI (pc1 := 82) (as := [.int v3]) (r := [.int v3, .ref 81]) (TBof tbs_133 _ rfl) rfl (lnkof mo_133 ln_4_149) rfl na_123 ltc_73 (sh_73.trans (by rw [mo_123])) (Nat.le_of_ble_eq_true rfl) H (fun x3 M3 h3 D3 H => ?_)
      refine ev_if (pc1 := 85) (t := 89) (TBof tbs_133 _ rfl) (by decide) rfl (fun c4 => ?_) (fun c4 => ?_)
      · replace H := H.1 c4
        refine ev_iconst (pc1 := 90) (x := 0) (by decide) (TBof tbs_133 _ rfl) rfl ?_
        exact ev_le [0, 1, 2, 3] rfl rfl H
      · replace H := H.2 c4
        refine ev_iconst (pc1 := 86) (x := 1) (by decide) (TBof tbs_133 _ rfl) rfl ?_
        refine ev_goto (pc1 := 90) (TBof tbs_133 _ rfl) (by decide) ?_
        exact ev_le [0, 1, 2, 3] rfl rfl H
set_option maxRecDepth 100000 in
theorem R_X4_gather_90 {d : Nat} {v1 v2 v3 s0 s1 : Int32} {M : Im} {h : Hm} {D : Dm} {Q : Int32 → Im → Hm → Dm → Prop} (H : vp_in s1 76 ∧ (((v2 = 0) → (CI d nX4_d [.int v3] (up2 M 81 (s1.toNatClampNeg) (s0 &&& 1)) h D (fun x2 M2 h2 D2 => vp_in (x2 + 0) 168 ∧ (EvI d nX4_gather 57 [(0, .ref 73), (1, .int v1), (2, .int 0), (3, .int (M2 74 ((x2 + 0).toNatClampNeg)))] [] M2 h2 D2 Q)))) ∧ (¬ (v2 = 0) → (CI d nX4_isClosed [.ref 73, .int v3] (up2 M 81 (s1.toNatClampNeg) (s0 &&& 1)) h D (fun x3 M3 h3 D3 => ((x3 = 0) → (EvI d nX4_gather 112 [(0, .ref 73), (1, .int v1), (2, .int v2), (3, .int v3)] [] M3 h3 D3 Q)) ∧ (¬ (x3 = 0) → (vp_in v3 76 ∧ ((((M3 80 (v3.toNatClampNeg)) = 0) → (CI d nX4_d [.int v3] M3 h3 D3 (fun x6 M6 h6 D6 => vp_in (x6 + 0) 168 ∧ (EvI d nX4_gather 57 [(0, .ref 73), (1, .int v1), (2, .int 0), (3, .int (M6 74 ((x6 + 0).toNatClampNeg)))] [] M6 h6 D6 Q)))) ∧ (¬ ((M3 80 (v3.toNatClampNeg)) = 0) → (EvI d nX4_gather 112 [(0, .ref 73), (1, .int v1), (2, .int v2), (3, .int v3)] [] M3 h3 D3 Q)))))))))) : EvI d nX4_gather 90 [(0, .ref 73), (1, .int v1), (2, .int v2), (3, .int v3)] [.int s0, .int s1, .ref 81] M h D Q := by
  refine ev_bastore (pc1 := 91) (n := 76) (TBof tbs_133 _ rfl) rfl ltc_81 sh_81 H.1 ?_
  replace H := H.2
  refine ev_iload_n (pc1 := 92) rfl (TBof tbs_133 _ rfl) rfl ?_
  refine ev_if (pc1 := 95) (t := 116) (TBof tbs_133 _ rfl) (by decide) rfl (fun c1 => ?_) (fun c1 => ?_)
  · replace H := H.1 c1
    refine ev_iconst (pc1 := 117) (x := 0) (by decide) (TBof tbs_133 _ rfl) rfl ?_
    refine ev_istore_n (pc1 := 118) (L1 := [(2, .int 0), (0, .ref 73), (1, .int v1), (3, .int v3)]) (by rw [ml_133]; decide) rfl (TBof tbs_133 _ rfl) rfl ?_
    refine ev_aload_n (pc1 := 119) rfl rfl (TBof tbs_133 _ rfl) rfl ?_
    refine ev_getP (pc1 := 122) (ci := 4) (k := 0) (a := 74) (TBof tbs_133 _ rfl) rfl (fldof mo_133 fl_4_7) ltc_73 sh_73 nk_4_0 fp_4_0 (by decide) pf_73_0 ?_
    refine ev_iload_n (pc1 := 123) rfl (TBof tbs_133 _ rfl) rfl ?_
    refine ev_callsI (pc1 := 126) (as := [.int v3]) (r := [.ref 74]) (TBof tbs_133 _ rfl) rfl (lnkof mo_133 ln_4_55) (Or.inl rfl) rfl na_86 (Nat.le_of_ble_eq_true rfl) H (fun x2 M2 h2 D2 H => ?_)
    refine ev_iconst (pc1 := 127) (x := 0) (by decide) (TBof tbs_133 _ rfl) rfl ?_
    refine ev_iadd (pc1 := 128) (TBof tbs_133 _ rfl) rfl ?_
    refine ev_iaload (pc1 := 129) (n := 168) (TBof tbs_133 _ rfl) rfl ltc_74 sh_74 H.1 ?_
    replace H := H.2
    refine ev_istore_n (pc1 := 130) (L1 := [(3, .int (M2 74 ((x2 + 0).toNatClampNeg))), (2, .int 0), (0, .ref 73), (1, .int v1)]) (by rw [ml_133]; decide) rfl (TBof tbs_133 _ rfl) rfl ?_
    refine ev_goto (pc1 := 57) (TBof tbs_133 _ rfl) (by decide) ?_
    exact ev_le [2, 3, 1, 0] rfl rfl H
  · replace H := H.2 c1
    refine ev_aload_n (pc1 := 96) rfl rfl (TBof tbs_133 _ rfl) rfl ?_
    refine ev_iload_n (pc1 := 97) rfl (TBof tbs_133 _ rfl) rfl ?_
    refine ev_callvI (pc1 := 100) (as := [.int v3]) (r := []) (TBof tbs_133 _ rfl) rfl (lnkof mo_133 ln_4_149) rfl na_123 ltc_73 (sh_73.trans (by rw [mo_123])) (Nat.le_of_ble_eq_true rfl) H (fun x3 M3 h3 D3 H => ?_)
    refine ev_if (pc1 := 103) (t := 112) (TBof tbs_133 _ rfl) (by decide) rfl (fun c4 => ?_) (fun c4 => ?_)
    · replace H := H.1 c4
      exact ev_le [0, 1, 2, 3] rfl rfl H
    · replace H := H.2 c4
      refine ev_aload_n (pc1 := 104) rfl rfl (TBof tbs_133 _ rfl) rfl ?_
      refine ev_getP (pc1 := 107) (ci := 4) (k := 6) (a := 80) (TBof tbs_133 _ rfl) rfl (fldof mo_133 fl_4_30) ltc_73 sh_73 nk_4_6 fp_4_6 (by decide) pf_73_6 ?_
      refine ev_iload_n (pc1 := 108) rfl (TBof tbs_133 _ rfl) rfl ?_
      refine ev_baload (pc1 := 109) (n := 76) (TBof tbs_133 _ rfl) rfl ltc_80 sh_80 H.1 ?_
      replace H := H.2
      refine ev_if (pc1 := 112) (t := 116) (TBof tbs_133 _ rfl) (by decide) rfl (fun c5 => ?_) (fun c5 => ?_)
      · replace H := H.1 c5
        refine ev_iconst (pc1 := 117) (x := 0) (by decide) (TBof tbs_133 _ rfl) rfl ?_
        refine ev_istore_n (pc1 := 118) (L1 := [(2, .int 0), (0, .ref 73), (1, .int v1), (3, .int v3)]) (by rw [ml_133]; decide) rfl (TBof tbs_133 _ rfl) rfl ?_
        refine ev_aload_n (pc1 := 119) rfl rfl (TBof tbs_133 _ rfl) rfl ?_
        refine ev_getP (pc1 := 122) (ci := 4) (k := 0) (a := 74) (TBof tbs_133 _ rfl) rfl (fldof mo_133 fl_4_7) ltc_73 sh_73 nk_4_0 fp_4_0 (by decide) pf_73_0 ?_
        refine ev_iload_n (pc1 := 123) rfl (TBof tbs_133 _ rfl) rfl ?_
        refine ev_callsI (pc1 := 126) (as := [.int v3]) (r := [.ref 74]) (TBof tbs_133 _ rfl) rfl (lnkof mo_133 ln_4_55) (Or.inl rfl) rfl na_86 (Nat.le_of_ble_eq_true rfl) H (fun x6 M6 h6 D6 H => ?_)
        refine ev_iconst (pc1 := 127) (x := 0) (by decide) (TBof tbs_133 _ rfl) rfl ?_
        refine ev_iadd (pc1 := 128) (TBof tbs_133 _ rfl) rfl ?_
        refine ev_iaload (pc1 := 129) (n := 168) (TBof tbs_133 _ rfl) rfl ltc_74 sh_74 H.1 ?_
        replace H := H.2
        refine ev_istore_n (pc1 := 130) (L1 := [(3, .int (M6 74 ((x6 + 0).toNatClampNeg))), (2, .int 0), (0, .ref 73), (1, .int v1)]) (by rw [ml_133]; decide) rfl (TBof tbs_133 _ rfl) rfl ?_
        refine ev_goto (pc1 := 57) (TBof tbs_133 _ rfl) (by decide) ?_
        exact ev_le [2, 3, 1, 0] rfl rfl H
      · replace H := H.2 c5
        exact ev_le [0, 1, 2, 3] rfl rfl H
set_option maxRecDepth 100000 in
theorem R_X4_gather_112 {d : Nat} {v1 v2 v3 : Int32} {M : Im} {h : Hm} {D : Dm} {Q : Int32 → Im → Hm → Dm → Prop} (H : CI d nX4_d [.int v3] M h D (fun x1 M1 h1 D1 => vp_in (x1 + 0) 168 ∧ (EvI d nX4_gather 57 [(0, .ref 73), (1, .int v1), (2, .int 1), (3, .int (M1 74 ((x1 + 0).toNatClampNeg)))] [] M1 h1 D1 Q))) : EvI d nX4_gather 112 [(0, .ref 73), (1, .int v1), (2, .int v2), (3, .int v3)] [] M h D Q := by
  refine ev_iconst (pc1 := 113) (x := 1) (by decide) (TBof tbs_133 _ rfl) rfl ?_
  refine ev_goto (pc1 := 117) (TBof tbs_133 _ rfl) (by decide) ?_
  refine ev_istore_n (pc1 := 118) (L1 := [(2, .int 1), (0, .ref 73), (1, .int v1), (3, .int v3)]) (by rw [ml_133]; decide) rfl (TBof tbs_133 _ rfl) rfl ?_
  refine ev_aload_n (pc1 := 119) rfl rfl (TBof tbs_133 _ rfl) rfl ?_
  refine ev_getP (pc1 := 122) (ci := 4) (k := 0) (a := 74) (TBof tbs_133 _ rfl) rfl (fldof mo_133 fl_4_7) ltc_73 sh_73 nk_4_0 fp_4_0 (by decide) pf_73_0 ?_
  refine ev_iload_n (pc1 := 123) rfl (TBof tbs_133 _ rfl) rfl ?_
  refine ev_callsI (pc1 := 126) (as := [.int v3]) (r := [.ref 74]) (TBof tbs_133 _ rfl) rfl (lnkof mo_133 ln_4_55) (Or.inl rfl) rfl na_86 (Nat.le_of_ble_eq_true rfl) H (fun x1 M1 h1 D1 H => ?_)
  refine ev_iconst (pc1 := 127) (x := 0) (by decide) (TBof tbs_133 _ rfl) rfl ?_
  refine ev_iadd (pc1 := 128) (TBof tbs_133 _ rfl) rfl ?_
  refine ev_iaload (pc1 := 129) (n := 168) (TBof tbs_133 _ rfl) rfl ltc_74 sh_74 H.1 ?_
  replace H := H.2
  refine ev_istore_n (pc1 := 130) (L1 := [(3, .int (M1 74 ((x1 + 0).toNatClampNeg))), (2, .int 1), (0, .ref 73), (1, .int v1)]) (by rw [ml_133]; decide) rfl (TBof tbs_133 _ rfl) rfl ?_
  refine ev_goto (pc1 := 57) (TBof tbs_133 _ rfl) (by decide) ?_
  exact ev_le [2, 3, 1, 0] rfl rfl H
set_option maxRecDepth 100000 in
theorem R_X4_gather_135 {d : Nat} {v1 v2 v3 : Int32} {M : Im} {h : Hm} {D : Dm} {Q : Int32 → Im → Hm → Dm → Prop} (H : ((v3 = 0) → ((v2 = 0 ∨ v2 = 1) ∧ Q v2 M h D)) ∧ (¬ (v3 = 0) → (((v2 = 0) → ((v2 = 0 ∨ v2 = 1) ∧ Q v2 M h D)) ∧ (¬ (v2 = 0) → (EvI d nX4_gather 148 [(0, .ref 73), (1, .int v1), (2, .int v2), (3, .int 0), (4, .int 0)] [] M h D Q))))) : EvI d nX4_gather 135 [(0, .ref 73), (1, .int v1), (2, .int v2), (3, .int v3)] [] M h D Q := by
  refine ev_iload_n (pc1 := 136) rfl (TBof tbs_133 _ rfl) rfl ?_
  refine ev_if (pc1 := 139) (t := 226) (TBof tbs_133 _ rfl) (by decide) rfl (fun c1 => ?_) (fun c1 => ?_)
  · replace H := H.1 c1
    refine ev_iload_n (pc1 := 227) rfl (TBof tbs_133 _ rfl) rfl ?_
    exact ev_ireturn (TBof tbs_133 _ rfl) (retI_z rt_133 H.1) ⟨_, rfl, H.2⟩
  · replace H := H.2 c1
    refine ev_iload_n (pc1 := 140) rfl (TBof tbs_133 _ rfl) rfl ?_
    refine ev_if (pc1 := 143) (t := 226) (TBof tbs_133 _ rfl) (by decide) rfl (fun c2 => ?_) (fun c2 => ?_)
    · replace H := H.1 c2
      refine ev_iload_n (pc1 := 227) rfl (TBof tbs_133 _ rfl) rfl ?_
      exact ev_ireturn (TBof tbs_133 _ rfl) (retI_z rt_133 H.1) ⟨_, rfl, H.2⟩
    · replace H := H.2 c2
      refine ev_iconst (pc1 := 144) (x := 0) (by decide) (TBof tbs_133 _ rfl) rfl ?_
      refine ev_istore_n (pc1 := 145) (L1 := [(3, .int 0), (0, .ref 73), (1, .int v1), (2, .int v2)]) (by rw [ml_133]; decide) rfl (TBof tbs_133 _ rfl) rfl ?_
      refine ev_iconst (pc1 := 146) (x := 0) (by decide) (TBof tbs_133 _ rfl) rfl ?_
      refine ev_istore (pc1 := 148) (L1 := [(4, .int 0), (3, .int 0), (0, .ref 73), (1, .int v1), (2, .int v2)]) (by rw [ml_133]; decide) rfl (TBof tbs_133 _ rfl) rfl ?_
      exact ev_le [2, 3, 4, 1, 0] rfl rfl H
set_option maxRecDepth 100000 in
theorem R_X4_gather_148 {d : Nat} {v1 v2 v3 v4 : Int32} {M : Im} {h : Hm} {D : Dm} {Q : Int32 → Im → Hm → Dm → Prop} (H : ((76 ≤ v4) → (EvI d nX4_gather 135 [(0, .ref 73), (1, .int v1), (2, .int v2), (3, .int v3)] [] M h D Q)) ∧ (¬ (76 ≤ v4) → (EvI d nX4_gather 158 [(0, .ref 73), (1, .int v1), (2, .int v2), (3, .int v3), (4, .int v4), (5, .int 0)] [] M h D Q))) : EvI d nX4_gather 148 [(0, .ref 73), (1, .int v1), (2, .int v2), (3, .int v3), (4, .int v4)] [] M h D Q := by
  refine ev_iload (pc1 := 150) rfl (TBof tbs_133 _ rfl) rfl ?_
  refine ev_bipush (pc1 := 152) (x := 76) (by decide) (TBof tbs_133 _ rfl) rfl ?_
  refine ev_icmp (pc1 := 155) (t := 223) (TBof tbs_133 _ rfl) (by decide) rfl (fun c1 => ?_) (fun c1 => ?_)
  · replace H := H.1 c1
    refine ev_goto (pc1 := 135) (TBof tbs_133 _ rfl) (by decide) ?_
    exact ev_le [0, 1, 2, 3] rfl rfl H
  · replace H := H.2 c1
    refine ev_iconst (pc1 := 156) (x := 0) (by decide) (TBof tbs_133 _ rfl) rfl ?_
    refine ev_istore (pc1 := 158) (L1 := [(5, .int 0), (0, .ref 73), (1, .int v1), (2, .int v2), (3, .int v3), (4, .int v4)]) (by rw [ml_133]; decide) rfl (TBof tbs_133 _ rfl) rfl ?_
    exact ev_le [1, 2, 3, 4, 5, 0] rfl rfl H
set_option maxRecDepth 100000 in
theorem R_X4_gather_158 {d : Nat} {v1 v2 v3 v4 v5 : Int32} {M : Im} {h : Hm} {D : Dm} {Q : Int32 → Im → Hm → Dm → Prop} (H : ((76 ≤ v5) → (EvI d nX4_gather 148 [(0, .ref 73), (1, .int v1), (2, .int v2), (3, .int v3), (4, .int (v4 + 1))] [] M h D Q)) ∧ (¬ (76 ≤ v5) → (vp_in v4 76 ∧ ((((M 81 (v4.toNatClampNeg)) = 0) → (EvI d nX4_gather 148 [(0, .ref 73), (1, .int v1), (2, .int v2), (3, .int v3), (4, .int (v4 + 1))] [] M h D Q)) ∧ (¬ ((M 81 (v4.toNatClampNeg)) = 0) → (vp_in ((76 * v4) + v5) 5776 ∧ ((((M 78 (((76 * v4) + v5).toNatClampNeg)) = 0) → (EvI d nX4_gather 158 [(0, .ref 73), (1, .int v1), (2, .int v2), (3, .int v3), (4, .int v4), (5, .int (v5 + 1))] [] M h D Q)) ∧ (¬ ((M 78 (((76 * v4) + v5).toNatClampNeg)) = 0) → (vp_in v5 76 ∧ (((¬ ((M 81 (v5.toNatClampNeg)) = 0)) → (EvI d nX4_gather 158 [(0, .ref 73), (1, .int v1), (2, .int v2), (3, .int v3), (4, .int v4), (5, .int (v5 + 1))] [] M h D Q)) ∧ (¬ (¬ ((M 81 (v5.toNatClampNeg)) = 0)) → (vp_in v5 76 ∧ (EvI d nX4_gather 158 [(0, .ref 73), (1, .int v1), (2, .int v2), (3, .int 1), (4, .int v4), (5, .int (v5 + 1))] [] (up2 M 81 (v5.toNatClampNeg) (1 &&& 1)) h D Q))))))))))))) : EvI d nX4_gather 158 [(0, .ref 73), (1, .int v1), (2, .int v2), (3, .int v3), (4, .int v4), (5, .int v5)] [] M h D Q := by
  refine ev_iload (pc1 := 160) rfl (TBof tbs_133 _ rfl) rfl ?_
  refine ev_bipush (pc1 := 162) (x := 76) (by decide) (TBof tbs_133 _ rfl) rfl ?_
  refine ev_icmp (pc1 := 165) (t := 217) (TBof tbs_133 _ rfl) (by decide) rfl (fun c1 => ?_) (fun c1 => ?_)
  · replace H := H.1 c1
    refine ev_iinc (pc1 := 220) (n := 4) (c := 1) (x := v4) (cc := 1) (L1 := [(4, .int (v4 + 1)), (0, .ref 73), (1, .int v1), (2, .int v2), (3, .int v3), (5, .int v5)]) rfl (by rw [ml_133]; decide) (by decide) rfl (TBof tbs_133 _ rfl) rfl ?_
    refine ev_goto (pc1 := 148) (TBof tbs_133 _ rfl) (by decide) ?_
    exact ev_le [1, 2, 3, 4, 0] rfl rfl H
  · replace H := H.2 c1
    refine ev_aload_n (pc1 := 166) rfl rfl (TBof tbs_133 _ rfl) rfl ?_
    refine ev_getP (pc1 := 169) (ci := 4) (k := 7) (a := 81) (TBof tbs_133 _ rfl) rfl (fldof mo_133 fl_4_33) ltc_73 sh_73 nk_4_7 fp_4_7 (by decide) pf_73_7 ?_
    refine ev_iload (pc1 := 171) rfl (TBof tbs_133 _ rfl) rfl ?_
    refine ev_baload (pc1 := 172) (n := 76) (TBof tbs_133 _ rfl) rfl ltc_81 sh_81 H.1 ?_
    replace H := H.2
    refine ev_if (pc1 := 175) (t := 217) (TBof tbs_133 _ rfl) (by decide) rfl (fun c2 => ?_) (fun c2 => ?_)
    · replace H := H.1 c2
      refine ev_iinc (pc1 := 220) (n := 4) (c := 1) (x := v4) (cc := 1) (L1 := [(4, .int (v4 + 1)), (0, .ref 73), (1, .int v1), (2, .int v2), (3, .int v3), (5, .int v5)]) rfl (by rw [ml_133]; decide) (by decide) rfl (TBof tbs_133 _ rfl) rfl ?_
      refine ev_goto (pc1 := 148) (TBof tbs_133 _ rfl) (by decide) ?_
      exact ev_le [1, 2, 3, 4, 0] rfl rfl H
    · replace H := H.2 c2
      refine ev_aload_n (pc1 := 176) rfl rfl (TBof tbs_133 _ rfl) rfl ?_
      refine ev_getP (pc1 := 179) (ci := 4) (k := 4) (a := 78) (TBof tbs_133 _ rfl) rfl (fldof mo_133 fl_4_23) ltc_73 sh_73 nk_4_4 fp_4_4 (by decide) pf_73_4 ?_
      refine ev_bipush (pc1 := 181) (x := 76) (by decide) (TBof tbs_133 _ rfl) rfl ?_
      refine ev_iload (pc1 := 183) rfl (TBof tbs_133 _ rfl) rfl ?_
      refine ev_imul (pc1 := 184) (TBof tbs_133 _ rfl) rfl ?_
      refine ev_iload (pc1 := 186) rfl (TBof tbs_133 _ rfl) rfl ?_
      refine ev_iadd (pc1 := 187) (TBof tbs_133 _ rfl) rfl ?_
      refine ev_baload (pc1 := 188) (n := 5776) (TBof tbs_133 _ rfl) rfl ltc_78 sh_78 H.1 ?_
      replace H := H.2
      refine ev_if (pc1 := 191) (t := 211) (TBof tbs_133 _ rfl) (by decide) rfl (fun c3 => ?_) (fun c3 => ?_)
      · replace H := H.1 c3
        refine ev_iinc (pc1 := 214) (n := 5) (c := 1) (x := v5) (cc := 1) (L1 := [(5, .int (v5 + 1)), (0, .ref 73), (1, .int v1), (2, .int v2), (3, .int v3), (4, .int v4)]) rfl (by rw [ml_133]; decide) (by decide) rfl (TBof tbs_133 _ rfl) rfl ?_
        refine ev_goto (pc1 := 158) (TBof tbs_133 _ rfl) (by decide) ?_
        exact ev_le [1, 2, 3, 4, 5, 0] rfl rfl H
      · replace H := H.2 c3
        refine ev_aload_n (pc1 := 192) rfl rfl (TBof tbs_133 _ rfl) rfl ?_
        refine ev_getP (pc1 := 195) (ci := 4) (k := 7) (a := 81) (TBof tbs_133 _ rfl) rfl (fldof mo_133 fl_4_33) ltc_73 sh_73 nk_4_7 fp_4_7 (by decide) pf_73_7 ?_
        refine ev_iload (pc1 := 197) rfl (TBof tbs_133 _ rfl) rfl ?_
        refine ev_baload (pc1 := 198) (n := 76) (TBof tbs_133 _ rfl) rfl ltc_81 sh_81 H.1 ?_
        replace H := H.2
        refine ev_if (pc1 := 201) (t := 211) (TBof tbs_133 _ rfl) (by decide) rfl (fun c4 => ?_) (fun c4 => ?_)
        · replace H := H.1 c4
          refine ev_iinc (pc1 := 214) (n := 5) (c := 1) (x := v5) (cc := 1) (L1 := [(5, .int (v5 + 1)), (0, .ref 73), (1, .int v1), (2, .int v2), (3, .int v3), (4, .int v4)]) rfl (by rw [ml_133]; decide) (by decide) rfl (TBof tbs_133 _ rfl) rfl ?_
          refine ev_goto (pc1 := 158) (TBof tbs_133 _ rfl) (by decide) ?_
          exact ev_le [1, 2, 3, 4, 5, 0] rfl rfl H
        · replace H := H.2 c4
          refine ev_aload_n (pc1 := 202) rfl rfl (TBof tbs_133 _ rfl) rfl ?_
          refine ev_getP (pc1 := 205) (ci := 4) (k := 7) (a := 81) (TBof tbs_133 _ rfl) rfl (fldof mo_133 fl_4_33) ltc_73 sh_73 nk_4_7 fp_4_7 (by decide) pf_73_7 ?_
          refine ev_iload (pc1 := 207) rfl (TBof tbs_133 _ rfl) rfl ?_
          refine ev_iconst (pc1 := 208) (x := 1) (by decide) (TBof tbs_133 _ rfl) rfl ?_
          refine ev_bastore (pc1 := 209) (n := 76) (TBof tbs_133 _ rfl) rfl ltc_81 sh_81 H.1 ?_
          replace H := H.2
          refine ev_iconst (pc1 := 210) (x := 1) (by decide) (TBof tbs_133 _ rfl) rfl ?_
          refine ev_istore_n (pc1 := 211) (L1 := [(3, .int 1), (0, .ref 73), (1, .int v1), (2, .int v2), (4, .int v4), (5, .int v5)]) (by rw [ml_133]; decide) rfl (TBof tbs_133 _ rfl) rfl ?_
          refine ev_iinc (pc1 := 214) (n := 5) (c := 1) (x := v5) (cc := 1) (L1 := [(5, .int (v5 + 1)), (3, .int 1), (0, .ref 73), (1, .int v1), (2, .int v2), (4, .int v4)]) rfl (by rw [ml_133]; decide) (by decide) rfl (TBof tbs_133 _ rfl) rfl ?_
          refine ev_goto (pc1 := 158) (TBof tbs_133 _ rfl) (by decide) ?_
          exact ev_le [2, 3, 4, 1, 5, 0] rfl rfl H
set_option maxRecDepth 100000 in
theorem R_X4_takenMany_0 {d : Nat} {v1 v2 : Int32} {M : Im} {h : Hm} {D : Dm} {Q : Int32 → Im → Hm → Dm → Prop} (H : EvI d nX4_takenMany 5 [(0, .ref 73), (1, .int v1), (2, .int v2), (3, .int 0), (4, .int v1)] [] M h D Q) : EvI d nX4_takenMany 0 [(0, .ref 73), (1, .int v1), (2, .int v2)] [] M h D Q := by
  refine ev_iconst (pc1 := 1) (x := 0) (by decide) (TBof tbs_134 _ rfl) rfl ?_
  refine ev_istore_n (pc1 := 2) (L1 := [(3, .int 0), (0, .ref 73), (1, .int v1), (2, .int v2)]) (by rw [ml_134]; decide) rfl (TBof tbs_134 _ rfl) rfl ?_
  refine ev_iload_n (pc1 := 3) rfl (TBof tbs_134 _ rfl) rfl ?_
  refine ev_istore (pc1 := 5) (L1 := [(4, .int v1), (3, .int 0), (0, .ref 73), (1, .int v1), (2, .int v2)]) (by rw [ml_134]; decide) rfl (TBof tbs_134 _ rfl) rfl ?_
  exact ev_le [2, 3, 4, 1, 0] rfl rfl H
set_option maxRecDepth 100000 in
theorem R_X4_takenMany_5 {d : Nat} {v1 v2 v3 v4 : Int32} {M : Im} {h : Hm} {D : Dm} {Q : Int32 → Im → Hm → Dm → Prop} (H : ((v2 ≤ v4) → (Q v3 M h D)) ∧ (¬ (v2 ≤ v4) → (vp_in v4 76 ∧ ((((M 81 (v4.toNatClampNeg)) = 0) → (EvI d nX4_takenMany 5 [(0, .ref 73), (1, .int v1), (2, .int v2), (3, .int (v3 + 0)), (4, .int (v4 + 1))] [] M h D Q)) ∧ (¬ ((M 81 (v4.toNatClampNeg)) = 0) → (EvI d nX4_takenMany 5 [(0, .ref 73), (1, .int v1), (2, .int v2), (3, .int (v3 + 1)), (4, .int (v4 + 1))] [] M h D Q)))))) : EvI d nX4_takenMany 5 [(0, .ref 73), (1, .int v1), (2, .int v2), (3, .int v3), (4, .int v4)] [] M h D Q := by
  refine ev_iload (pc1 := 7) rfl (TBof tbs_134 _ rfl) rfl ?_
  refine ev_iload_n (pc1 := 8) rfl (TBof tbs_134 _ rfl) rfl ?_
  refine ev_icmp (pc1 := 11) (t := 35) (TBof tbs_134 _ rfl) (by decide) rfl (fun c1 => ?_) (fun c1 => ?_)
  · replace H := H.1 c1
    refine ev_iload_n (pc1 := 36) rfl (TBof tbs_134 _ rfl) rfl ?_
    exact ev_ireturn (TBof tbs_134 _ rfl) (retI_i rt_134) ⟨_, rfl, H⟩
  · replace H := H.2 c1
    refine ev_iload_n (pc1 := 12) rfl (TBof tbs_134 _ rfl) rfl ?_
    refine ev_aload_n (pc1 := 13) rfl rfl (TBof tbs_134 _ rfl) rfl ?_
    refine ev_getP (pc1 := 16) (ci := 4) (k := 7) (a := 81) (TBof tbs_134 _ rfl) rfl (fldof mo_134 fl_4_33) ltc_73 sh_73 nk_4_7 fp_4_7 (by decide) pf_73_7 ?_
    refine ev_iload (pc1 := 18) rfl (TBof tbs_134 _ rfl) rfl ?_
    refine ev_baload (pc1 := 19) (n := 76) (TBof tbs_134 _ rfl) rfl ltc_81 sh_81 H.1 ?_
    replace H := H.2
    refine ev_if (pc1 := 22) (t := 26) (TBof tbs_134 _ rfl) (by decide) rfl (fun c2 => ?_) (fun c2 => ?_)
    · replace H := H.1 c2
      refine ev_iconst (pc1 := 27) (x := 0) (by decide) (TBof tbs_134 _ rfl) rfl ?_
      refine ev_iadd (pc1 := 28) (TBof tbs_134 _ rfl) rfl ?_
      refine ev_istore_n (pc1 := 29) (L1 := [(3, .int (v3 + 0)), (0, .ref 73), (1, .int v1), (2, .int v2), (4, .int v4)]) (by rw [ml_134]; decide) rfl (TBof tbs_134 _ rfl) rfl ?_
      refine ev_iinc (pc1 := 32) (n := 4) (c := 1) (x := v4) (cc := 1) (L1 := [(4, .int (v4 + 1)), (3, .int (v3 + 0)), (0, .ref 73), (1, .int v1), (2, .int v2)]) rfl (by rw [ml_134]; decide) (by decide) rfl (TBof tbs_134 _ rfl) rfl ?_
      refine ev_goto (pc1 := 5) (TBof tbs_134 _ rfl) (by decide) ?_
      exact ev_le [2, 3, 4, 1, 0] rfl rfl H
    · replace H := H.2 c2
      refine ev_iconst (pc1 := 23) (x := 1) (by decide) (TBof tbs_134 _ rfl) rfl ?_
      refine ev_goto (pc1 := 27) (TBof tbs_134 _ rfl) (by decide) ?_
      refine ev_iadd (pc1 := 28) (TBof tbs_134 _ rfl) rfl ?_
      refine ev_istore_n (pc1 := 29) (L1 := [(3, .int (v3 + 1)), (0, .ref 73), (1, .int v1), (2, .int v2), (4, .int v4)]) (by rw [ml_134]; decide) rfl (TBof tbs_134 _ rfl) rfl ?_
      refine ev_iinc (pc1 := 32) (n := 4) (c := 1) (x := v4) (cc := 1) (L1 := [(4, .int (v4 + 1)), (3, .int (v3 + 1)), (0, .ref 73), (1, .int v1), (2, .int v2)]) rfl (by rw [ml_134]; decide) (by decide) rfl (TBof tbs_134 _ rfl) rfl ?_
      refine ev_goto (pc1 := 5) (TBof tbs_134 _ rfl) (by decide) ?_
      exact ev_le [2, 3, 4, 1, 0] rfl rfl H
set_option maxRecDepth 100000 in
theorem R_X4_takenSet_0 {d : Nat} {v1 v2 : Int32} {M : Im} {h : Hm} {D : Dm} {Q : Int32 → Im → Hm → Dm → Prop} (H : EvI d nX4_takenSet 5 [(0, .ref 73), (1, .int v1), (2, .int v2), (3, .int 0), (4, .int v1)] [] M h D Q) : EvI d nX4_takenSet 0 [(0, .ref 73), (1, .int v1), (2, .int v2)] [] M h D Q := by
  refine ev_iconst (pc1 := 1) (x := 0) (by decide) (TBof tbs_135 _ rfl) rfl ?_
  refine ev_istore_n (pc1 := 2) (L1 := [(3, .int 0), (0, .ref 73), (1, .int v1), (2, .int v2)]) (by rw [ml_135]; decide) rfl (TBof tbs_135 _ rfl) rfl ?_
  refine ev_iload_n (pc1 := 3) rfl (TBof tbs_135 _ rfl) rfl ?_
  refine ev_istore (pc1 := 5) (L1 := [(4, .int v1), (3, .int 0), (0, .ref 73), (1, .int v1), (2, .int v2)]) (by rw [ml_135]; decide) rfl (TBof tbs_135 _ rfl) rfl ?_
  exact ev_le [2, 3, 4, 1, 0] rfl rfl H
set_option maxRecDepth 100000 in
theorem R_X4_takenSet_5 {d : Nat} {v1 v2 v3 v4 : Int32} {M : Im} {h : Hm} {D : Dm} {Q : Int32 → Im → Hm → Dm → Prop} (H : ((v2 ≤ v4) → (Q v3 M h D)) ∧ (¬ (v2 ≤ v4) → (vp_in v4 76 ∧ ((((M 81 (v4.toNatClampNeg)) = 0) → (EvI d nX4_takenSet 5 [(0, .ref 73), (1, .int v1), (2, .int v2), (3, .int (v3 ||| 0)), (4, .int (v4 + 1))] [] M h D Q)) ∧ (¬ ((M 81 (v4.toNatClampNeg)) = 0) → (EvI d nX4_takenSet 5 [(0, .ref 73), (1, .int v1), (2, .int v2), (3, .int (v3 ||| (1 <<< ((v4 - v1) &&& 31)))), (4, .int (v4 + 1))] [] M h D Q)))))) : EvI d nX4_takenSet 5 [(0, .ref 73), (1, .int v1), (2, .int v2), (3, .int v3), (4, .int v4)] [] M h D Q := by
  refine ev_iload (pc1 := 7) rfl (TBof tbs_135 _ rfl) rfl ?_
  refine ev_iload_n (pc1 := 8) rfl (TBof tbs_135 _ rfl) rfl ?_
  refine ev_icmp (pc1 := 11) (t := 40) (TBof tbs_135 _ rfl) (by decide) rfl (fun c1 => ?_) (fun c1 => ?_)
  · replace H := H.1 c1
    refine ev_iload_n (pc1 := 41) rfl (TBof tbs_135 _ rfl) rfl ?_
    exact ev_ireturn (TBof tbs_135 _ rfl) (retI_i rt_135) ⟨_, rfl, H⟩
  · replace H := H.2 c1
    refine ev_iload_n (pc1 := 12) rfl (TBof tbs_135 _ rfl) rfl ?_
    refine ev_aload_n (pc1 := 13) rfl rfl (TBof tbs_135 _ rfl) rfl ?_
    refine ev_getP (pc1 := 16) (ci := 4) (k := 7) (a := 81) (TBof tbs_135 _ rfl) rfl (fldof mo_135 fl_4_33) ltc_73 sh_73 nk_4_7 fp_4_7 (by decide) pf_73_7 ?_
    refine ev_iload (pc1 := 18) rfl (TBof tbs_135 _ rfl) rfl ?_
    refine ev_baload (pc1 := 19) (n := 76) (TBof tbs_135 _ rfl) rfl ltc_81 sh_81 H.1 ?_
    replace H := H.2
    refine ev_if (pc1 := 22) (t := 31) (TBof tbs_135 _ rfl) (by decide) rfl (fun c2 => ?_) (fun c2 => ?_)
    · replace H := H.1 c2
      refine ev_iconst (pc1 := 32) (x := 0) (by decide) (TBof tbs_135 _ rfl) rfl ?_
      refine ev_ior (pc1 := 33) (TBof tbs_135 _ rfl) rfl ?_
      refine ev_istore_n (pc1 := 34) (L1 := [(3, .int (v3 ||| 0)), (0, .ref 73), (1, .int v1), (2, .int v2), (4, .int v4)]) (by rw [ml_135]; decide) rfl (TBof tbs_135 _ rfl) rfl ?_
      refine ev_iinc (pc1 := 37) (n := 4) (c := 1) (x := v4) (cc := 1) (L1 := [(4, .int (v4 + 1)), (3, .int (v3 ||| 0)), (0, .ref 73), (1, .int v1), (2, .int v2)]) rfl (by rw [ml_135]; decide) (by decide) rfl (TBof tbs_135 _ rfl) rfl ?_
      refine ev_goto (pc1 := 5) (TBof tbs_135 _ rfl) (by decide) ?_
      exact ev_le [2, 3, 4, 1, 0] rfl rfl H
    · replace H := H.2 c2
      refine ev_iconst (pc1 := 23) (x := 1) (by decide) (TBof tbs_135 _ rfl) rfl ?_
      refine ev_iload (pc1 := 25) rfl (TBof tbs_135 _ rfl) rfl ?_
      refine ev_iload_n (pc1 := 26) rfl (TBof tbs_135 _ rfl) rfl ?_
      refine ev_isub (pc1 := 27) (TBof tbs_135 _ rfl) rfl ?_
      refine ev_ishl (pc1 := 28) (TBof tbs_135 _ rfl) rfl ?_
      refine ev_goto (pc1 := 32) (TBof tbs_135 _ rfl) (by decide) ?_
      refine ev_ior (pc1 := 33) (TBof tbs_135 _ rfl) rfl ?_
      refine ev_istore_n (pc1 := 34) (L1 := [(3, .int (v3 ||| (1 <<< ((v4 - v1) &&& 31)))), (0, .ref 73), (1, .int v1), (2, .int v2), (4, .int v4)]) (by rw [ml_135]; decide) rfl (TBof tbs_135 _ rfl) rfl ?_
      refine ev_iinc (pc1 := 37) (n := 4) (c := 1) (x := v4) (cc := 1) (L1 := [(4, .int (v4 + 1)), (3, .int (v3 ||| (1 <<< ((v4 - v1) &&& 31)))), (0, .ref 73), (1, .int v1), (2, .int v2)]) rfl (by rw [ml_135]; decide) (by decide) rfl (TBof tbs_135 _ rfl) rfl ?_
      refine ev_goto (pc1 := 5) (TBof tbs_135 _ rfl) (by decide) ?_
      exact ev_le [2, 3, 4, 1, 0] rfl rfl H
set_option maxRecDepth 100000 in
theorem R_X4_takenSeals_0 {d : Nat} {M : Im} {h : Hm} {D : Dm} {Q : Int32 → Im → Hm → Dm → Prop} (H : EvI d nX4_takenSeals 4 [(0, .ref 73), (1, .int 0), (2, .int 0)] [] M h D Q) : EvI d nX4_takenSeals 0 [(0, .ref 73)] [] M h D Q := by
  refine ev_iconst (pc1 := 1) (x := 0) (by decide) (TBof tbs_136 _ rfl) rfl ?_
  refine ev_istore_n (pc1 := 2) (L1 := [(1, .int 0), (0, .ref 73)]) (by rw [ml_136]; decide) rfl (TBof tbs_136 _ rfl) rfl ?_
  refine ev_iconst (pc1 := 3) (x := 0) (by decide) (TBof tbs_136 _ rfl) rfl ?_
  refine ev_istore_n (pc1 := 4) (L1 := [(2, .int 0), (1, .int 0), (0, .ref 73)]) (by rw [ml_136]; decide) rfl (TBof tbs_136 _ rfl) rfl ?_
  exact ev_le [2, 1, 0] rfl rfl H
set_option maxRecDepth 100000 in
theorem R_X4_takenSeals_4 {d : Nat} {v1 v2 : Int32} {M : Im} {h : Hm} {D : Dm} {Q : Int32 → Im → Hm → Dm → Prop} (H : vp_in 0 168 ∧ ((((M 74 ((0 : Int32).toNatClampNeg)) ≤ v2) → (Q v1 M h D)) ∧ (¬ ((M 74 ((0 : Int32).toNatClampNeg)) ≤ v2) → (vp_in v2 76 ∧ ((((M 81 (v2.toNatClampNeg)) = 0) → (EvI d nX4_takenSeals 4 [(0, .ref 73), (1, .int (v1 + 0)), (2, .int (v2 + 1))] [] M h D Q)) ∧ (¬ ((M 81 (v2.toNatClampNeg)) = 0) → (CI d nX4_d [.int v2] M h D (fun x3 M3 h3 D3 => vp_in (x3 + 1) 168 ∧ (((¬ ((M3 74 ((x3 + 1).toNatClampNeg)) = 3)) → (EvI d nX4_takenSeals 4 [(0, .ref 73), (1, .int (v1 + 0)), (2, .int (v2 + 1))] [] M3 h3 D3 Q)) ∧ (¬ (¬ ((M3 74 ((x3 + 1).toNatClampNeg)) = 3)) → ((((M3 73 13) = 0) → (EvI d nX4_takenSeals 4 [(0, .ref 73), (1, .int (v1 + 1)), (2, .int (v2 + 1))] [] M3 h3 D3 Q)) ∧ (¬ ((M3 73 13) = 0) → (CI d nX4_d [.int v2] M3 h3 D3 (fun x6 M6 h6 D6 => vp_in (x6 + 7) 168 ∧ (((¬ ((M6 74 ((x6 + 7).toNatClampNeg)) = 0)) → (EvI d nX4_takenSeals 4 [(0, .ref 73), (1, .int (v1 + 0)), (2, .int (v2 + 1))] [] M6 h6 D6 Q)) ∧ (¬ (¬ ((M6 74 ((x6 + 7).toNatClampNeg)) = 0)) → (EvI d nX4_takenSeals 4 [(0, .ref 73), (1, .int (v1 + 1)), (2, .int (v2 + 1))] [] M6 h6 D6 Q))))))))))))))))) : EvI d nX4_takenSeals 4 [(0, .ref 73), (1, .int v1), (2, .int v2)] [] M h D Q := by
  refine ev_iload_n (pc1 := 5) rfl (TBof tbs_136 _ rfl) rfl ?_
  refine ev_aload_n (pc1 := 6) rfl rfl (TBof tbs_136 _ rfl) rfl ?_
  refine ev_getP (pc1 := 9) (ci := 4) (k := 0) (a := 74) (TBof tbs_136 _ rfl) rfl (fldof mo_136 fl_4_7) ltc_73 sh_73 nk_4_0 fp_4_0 (by decide) pf_73_0 ?_
  refine ev_iconst (pc1 := 10) (x := 0) (by decide) (TBof tbs_136 _ rfl) rfl ?_
  refine ev_iaload (pc1 := 11) (n := 168) (TBof tbs_136 _ rfl) rfl ltc_74 sh_74 H.1 ?_
  replace H := H.2
  refine ev_icmp (pc1 := 14) (t := 74) (TBof tbs_136 _ rfl) (by decide) rfl (fun c1 => ?_) (fun c1 => ?_)
  · replace H := H.1 c1
    refine ev_iload_n (pc1 := 75) rfl (TBof tbs_136 _ rfl) rfl ?_
    exact ev_ireturn (TBof tbs_136 _ rfl) (retI_i rt_136) ⟨_, rfl, H⟩
  · replace H := H.2 c1
    refine ev_iload_n (pc1 := 15) rfl (TBof tbs_136 _ rfl) rfl ?_
    refine ev_aload_n (pc1 := 16) rfl rfl (TBof tbs_136 _ rfl) rfl ?_
    refine ev_getP (pc1 := 19) (ci := 4) (k := 7) (a := 81) (TBof tbs_136 _ rfl) rfl (fldof mo_136 fl_4_33) ltc_73 sh_73 nk_4_7 fp_4_7 (by decide) pf_73_7 ?_
    refine ev_iload_n (pc1 := 20) rfl (TBof tbs_136 _ rfl) rfl ?_
    refine ev_baload (pc1 := 21) (n := 76) (TBof tbs_136 _ rfl) rfl ltc_81 sh_81 H.1 ?_
    replace H := H.2
    refine ev_if (pc1 := 24) (t := 65) (TBof tbs_136 _ rfl) (by decide) rfl (fun c2 => ?_) (fun c2 => ?_)
    · replace H := H.1 c2
      refine ev_iconst (pc1 := 66) (x := 0) (by decide) (TBof tbs_136 _ rfl) rfl ?_
      refine ev_iadd (pc1 := 67) (TBof tbs_136 _ rfl) rfl ?_
      refine ev_istore_n (pc1 := 68) (L1 := [(1, .int (v1 + 0)), (0, .ref 73), (2, .int v2)]) (by rw [ml_136]; decide) rfl (TBof tbs_136 _ rfl) rfl ?_
      refine ev_iinc (pc1 := 71) (n := 2) (c := 1) (x := v2) (cc := 1) (L1 := [(2, .int (v2 + 1)), (1, .int (v1 + 0)), (0, .ref 73)]) rfl (by rw [ml_136]; decide) (by decide) rfl (TBof tbs_136 _ rfl) rfl ?_
      refine ev_goto (pc1 := 4) (TBof tbs_136 _ rfl) (by decide) ?_
      exact ev_le [2, 1, 0] rfl rfl H
    · replace H := H.2 c2
      refine ev_aload_n (pc1 := 25) rfl rfl (TBof tbs_136 _ rfl) rfl ?_
      refine ev_getP (pc1 := 28) (ci := 4) (k := 0) (a := 74) (TBof tbs_136 _ rfl) rfl (fldof mo_136 fl_4_7) ltc_73 sh_73 nk_4_0 fp_4_0 (by decide) pf_73_0 ?_
      refine ev_iload_n (pc1 := 29) rfl (TBof tbs_136 _ rfl) rfl ?_
      refine ev_callsI (pc1 := 32) (as := [.int v2]) (r := [.ref 74, .int v1]) (TBof tbs_136 _ rfl) rfl (lnkof mo_136 ln_4_55) (Or.inl rfl) rfl na_86 (Nat.le_of_ble_eq_true rfl) H (fun x3 M3 h3 D3 H => ?_)
      refine ev_iconst (pc1 := 33) (x := 1) (by decide) (TBof tbs_136 _ rfl) rfl ?_
      refine ev_iadd (pc1 := 34) (TBof tbs_136 _ rfl) rfl ?_
      refine ev_iaload (pc1 := 35) (n := 168) (TBof tbs_136 _ rfl) rfl ltc_74 sh_74 H.1 ?_
      replace H := H.2
      refine ev_iconst (pc1 := 36) (x := 3) (by decide) (TBof tbs_136 _ rfl) rfl ?_
      refine ev_icmp (pc1 := 39) (t := 65) (TBof tbs_136 _ rfl) (by decide) rfl (fun c4 => ?_) (fun c4 => ?_)
      · replace H := H.1 c4
        refine ev_iconst (pc1 := 66) (x := 0) (by decide) (TBof tbs_136 _ rfl) rfl ?_
        refine ev_iadd (pc1 := 67) (TBof tbs_136 _ rfl) rfl ?_
        refine ev_istore_n (pc1 := 68) (L1 := [(1, .int (v1 + 0)), (0, .ref 73), (2, .int v2)]) (by rw [ml_136]; decide) rfl (TBof tbs_136 _ rfl) rfl ?_
        refine ev_iinc (pc1 := 71) (n := 2) (c := 1) (x := v2) (cc := 1) (L1 := [(2, .int (v2 + 1)), (1, .int (v1 + 0)), (0, .ref 73)]) rfl (by rw [ml_136]; decide) (by decide) rfl (TBof tbs_136 _ rfl) rfl ?_
        refine ev_goto (pc1 := 4) (TBof tbs_136 _ rfl) (by decide) ?_
        exact ev_le [2, 1, 0] rfl rfl H
      · replace H := H.2 c4
        refine ev_aload_n (pc1 := 40) rfl rfl (TBof tbs_136 _ rfl) rfl ?_
        refine ev_getI (pc1 := 43) (ci := 4) (k := 13) (TBof tbs_136 _ rfl) rfl (fldof mo_136 fl_4_146) ltc_73 sh_73 nk_4_13 fi_4_13 ?_
        refine ev_if (pc1 := 46) (t := 61) (TBof tbs_136 _ rfl) (by decide) rfl (fun c5 => ?_) (fun c5 => ?_)
        · replace H := H.1 c5
          refine ev_iconst (pc1 := 62) (x := 1) (by decide) (TBof tbs_136 _ rfl) rfl ?_
          refine ev_goto (pc1 := 66) (TBof tbs_136 _ rfl) (by decide) ?_
          refine ev_iadd (pc1 := 67) (TBof tbs_136 _ rfl) rfl ?_
          refine ev_istore_n (pc1 := 68) (L1 := [(1, .int (v1 + 1)), (0, .ref 73), (2, .int v2)]) (by rw [ml_136]; decide) rfl (TBof tbs_136 _ rfl) rfl ?_
          refine ev_iinc (pc1 := 71) (n := 2) (c := 1) (x := v2) (cc := 1) (L1 := [(2, .int (v2 + 1)), (1, .int (v1 + 1)), (0, .ref 73)]) rfl (by rw [ml_136]; decide) (by decide) rfl (TBof tbs_136 _ rfl) rfl ?_
          refine ev_goto (pc1 := 4) (TBof tbs_136 _ rfl) (by decide) ?_
          exact ev_le [2, 1, 0] rfl rfl H
        · replace H := H.2 c5
          refine ev_aload_n (pc1 := 47) rfl rfl (TBof tbs_136 _ rfl) rfl ?_
          refine ev_getP (pc1 := 50) (ci := 4) (k := 0) (a := 74) (TBof tbs_136 _ rfl) rfl (fldof mo_136 fl_4_7) ltc_73 sh_73 nk_4_0 fp_4_0 (by decide) pf_73_0 ?_
          refine ev_iload_n (pc1 := 51) rfl (TBof tbs_136 _ rfl) rfl ?_
          refine ev_callsI (pc1 := 54) (as := [.int v2]) (r := [.ref 74, .int v1]) (TBof tbs_136 _ rfl) rfl (lnkof mo_136 ln_4_55) (Or.inl rfl) rfl na_86 (Nat.le_of_ble_eq_true rfl) H (fun x6 M6 h6 D6 H => ?_)
          refine ev_bipush (pc1 := 56) (x := 7) (by decide) (TBof tbs_136 _ rfl) rfl ?_
          refine ev_iadd (pc1 := 57) (TBof tbs_136 _ rfl) rfl ?_
          refine ev_iaload (pc1 := 58) (n := 168) (TBof tbs_136 _ rfl) rfl ltc_74 sh_74 H.1 ?_
          replace H := H.2
          refine ev_if (pc1 := 61) (t := 65) (TBof tbs_136 _ rfl) (by decide) rfl (fun c7 => ?_) (fun c7 => ?_)
          · replace H := H.1 c7
            refine ev_iconst (pc1 := 66) (x := 0) (by decide) (TBof tbs_136 _ rfl) rfl ?_
            refine ev_iadd (pc1 := 67) (TBof tbs_136 _ rfl) rfl ?_
            refine ev_istore_n (pc1 := 68) (L1 := [(1, .int (v1 + 0)), (0, .ref 73), (2, .int v2)]) (by rw [ml_136]; decide) rfl (TBof tbs_136 _ rfl) rfl ?_
            refine ev_iinc (pc1 := 71) (n := 2) (c := 1) (x := v2) (cc := 1) (L1 := [(2, .int (v2 + 1)), (1, .int (v1 + 0)), (0, .ref 73)]) rfl (by rw [ml_136]; decide) (by decide) rfl (TBof tbs_136 _ rfl) rfl ?_
            refine ev_goto (pc1 := 4) (TBof tbs_136 _ rfl) (by decide) ?_
            exact ev_le [2, 1, 0] rfl rfl H
          · replace H := H.2 c7
            refine ev_iconst (pc1 := 62) (x := 1) (by decide) (TBof tbs_136 _ rfl) rfl ?_
            refine ev_goto (pc1 := 66) (TBof tbs_136 _ rfl) (by decide) ?_
            refine ev_iadd (pc1 := 67) (TBof tbs_136 _ rfl) rfl ?_
            refine ev_istore_n (pc1 := 68) (L1 := [(1, .int (v1 + 1)), (0, .ref 73), (2, .int v2)]) (by rw [ml_136]; decide) rfl (TBof tbs_136 _ rfl) rfl ?_
            refine ev_iinc (pc1 := 71) (n := 2) (c := 1) (x := v2) (cc := 1) (L1 := [(2, .int (v2 + 1)), (1, .int (v1 + 1)), (0, .ref 73)]) rfl (by rw [ml_136]; decide) (by decide) rfl (TBof tbs_136 _ rfl) rfl ?_
            refine ev_goto (pc1 := 4) (TBof tbs_136 _ rfl) (by decide) ?_
            exact ev_le [2, 1, 0] rfl rfl H
set_option maxRecDepth 100000 in
theorem R_X4_needs_0 {d : Nat} {v1 v2 : Int32} {M : Im} {h : Hm} {D : Dm} {Q : Int32 → Im → Hm → Dm → Prop} (H : CI d nX4_isDrawer [.ref 73, .int v1] M h D (fun x1 M1 h1 D1 => ((¬ (x1 = 0)) → (CI d nX4_in [.int v2, .int 0, .int 4] M1 h1 D1 (fun x3 M3 h3 D3 => ((¬ (x3 = 0)) → (CI d nX4_isGame [.ref 73] M3 h3 D3 (fun x5 M5 h5 D5 => CV d nX4_reckon [.ref 73, .int x5] M5 h5 D5 (fun M6 h6 D6 => CI d nX4_gather [.ref 73, .int v1] M6 h6 D6 (fun x7 M7 h7 D7 => ((¬ (x7 = 0)) → (((v2.toInt < 0 ∨ 3 < v2.toInt) → (CI d nX4_takenSeals [.ref 73] M7 h7 D7 (fun x9 M9 h9 D9 => Q x9 M9 h9 D9))) ∧ ((v2 = 0) → (CI d nX4_takenMany [.ref 73, .int 0, .int 76] M7 h7 D7 (fun x11 M11 h11 D11 => Q x11 M11 h11 D11))) ∧ ((v2 = 1) → (CI d nX4_takenSet [.ref 73, .int 0, .int 16] M7 h7 D7 (fun x12 M12 h12 D12 => Q x12 M12 h12 D12))) ∧ ((v2 = 2) → (CI d nX4_takenSet [.ref 73, .int 16, .int 28] M7 h7 D7 (fun x13 M13 h13 D13 => Q x13 M13 h13 D13))) ∧ ((v2 = 3) → (CI d nX4_takenMany [.ref 73, .int 28, .int 76] M7 h7 D7 (fun x14 M14 h14 D14 => Q x14 M14 h14 D14))))) ∧ (¬ (¬ (x7 = 0)) → (Q (-4) M7 h7 D7))))))) ∧ (¬ (¬ (x3 = 0)) → (Q (-2) M3 h3 D3))))) ∧ (¬ (¬ (x1 = 0)) → (Q (-1) M1 h1 D1)))) : EvI d nX4_needs 0 [(0, .ref 73), (1, .int v1), (2, .int v2)] [] M h D Q := by
  refine ev_aload_n (pc1 := 1) rfl rfl (TBof tbs_137 _ rfl) rfl ?_
  refine ev_iload_n (pc1 := 2) rfl (TBof tbs_137 _ rfl) rfl ?_
  refine ev_callvI (pc1 := 5) (as := [.int v1]) (r := []) (TBof tbs_137 _ rfl) rfl (lnkof mo_137 ln_4_58) rfl na_88 ltc_73 (sh_73.trans (by rw [mo_88])) (Nat.le_of_ble_eq_true rfl) H (fun x1 M1 h1 D1 H => ?_)
  refine ev_if (pc1 := 8) (t := 10) (TBof tbs_137 _ rfl) (by decide) rfl (fun c2 => ?_) (fun c2 => ?_)
  · replace H := H.1 c2
    refine ev_iload_n (pc1 := 11) rfl (TBof tbs_137 _ rfl) rfl ?_
    refine ev_iconst (pc1 := 12) (x := 0) (by decide) (TBof tbs_137 _ rfl) rfl ?_
    refine ev_iconst (pc1 := 13) (x := 4) (by decide) (TBof tbs_137 _ rfl) rfl ?_
    refine ev_callsI (pc1 := 16) (as := [.int v2, .int 0, .int 4]) (r := []) (TBof tbs_137 _ rfl) rfl (lnkof mo_137 ln_4_51) (Or.inl rfl) rfl na_84 (Nat.le_of_ble_eq_true rfl) H (fun x3 M3 h3 D3 H => ?_)
    refine ev_if (pc1 := 19) (t := 22) (TBof tbs_137 _ rfl) (by decide) rfl (fun c4 => ?_) (fun c4 => ?_)
    · replace H := H.1 c4
      refine ev_aload_n (pc1 := 23) rfl rfl (TBof tbs_137 _ rfl) rfl ?_
      refine ev_aload_n (pc1 := 24) rfl rfl (TBof tbs_137 _ rfl) rfl ?_
      refine ev_callvI (pc1 := 27) (as := []) (r := [.ref 73]) (TBof tbs_137 _ rfl) rfl (lnkof mo_137 ln_4_62) rfl na_89 ltc_73 (sh_73.trans (by rw [mo_89])) (Nat.le_of_ble_eq_true rfl) H (fun x5 M5 h5 D5 H => ?_)
      refine ev_callvV (pc1 := 30) (as := [.int x5]) (r := []) (TBof tbs_137 _ rfl) rfl (lnkof mo_137 ln_4_179) rfl na_131 ltc_73 (sh_73.trans (by rw [mo_131])) (Nat.le_of_ble_eq_true rfl) H (fun M6 h6 D6 H => ?_)
      refine ev_aload_n (pc1 := 31) rfl rfl (TBof tbs_137 _ rfl) rfl ?_
      refine ev_iload_n (pc1 := 32) rfl (TBof tbs_137 _ rfl) rfl ?_
      refine ev_callvI (pc1 := 35) (as := [.int v1]) (r := []) (TBof tbs_137 _ rfl) rfl (lnkof mo_137 ln_4_183) rfl na_133 ltc_73 (sh_73.trans (by rw [mo_133])) (Nat.le_of_ble_eq_true rfl) H (fun x7 M7 h7 D7 H => ?_)
      refine ev_if (pc1 := 38) (t := 41) (TBof tbs_137 _ rfl) (by decide) rfl (fun c8 => ?_) (fun c8 => ?_)
      · replace H := H.1 c8
        refine ev_iload_n (pc1 := 42) rfl (TBof tbs_137 _ rfl) rfl ?_
        refine ev_table (TBof tbs_137 _ rfl) (fun c10 => ⟨106, by decide, ?_⟩) (fun c10 => ?_)
        · replace H := H.1 c10
          refine ev_aload_n (pc1 := 107) rfl rfl (TBof tbs_137 _ rfl) rfl ?_
          refine ev_callvI (pc1 := 110) (as := []) (r := []) (TBof tbs_137 _ rfl) rfl (lnkof mo_137 ln_4_193) rfl na_136 ltc_73 (sh_73.trans (by rw [mo_136])) (Nat.le_of_ble_eq_true rfl) H (fun x9 M9 h9 D9 H => ?_)
          exact ev_ireturn (TBof tbs_137 _ rfl) (retI_i rt_137) ⟨_, rfl, H⟩
        · have e10 : v2.toInt = 0 ∨ v2.toInt = 1 ∨ v2.toInt = 2 ∨ v2.toInt = 3 := by omega
          replace H := H.2
          rcases e10 with e10 | e10 | e10 | e10
          · refine ⟨30, 72, by rw [e10]; rfl, by decide, ?_⟩
            replace H := H.1 (Int32.toInt_inj.mp (by rw [e10]; decide))
            refine ev_aload_n (pc1 := 73) rfl rfl (TBof tbs_137 _ rfl) rfl ?_
            refine ev_iconst (pc1 := 74) (x := 0) (by decide) (TBof tbs_137 _ rfl) rfl ?_
            refine ev_bipush (pc1 := 76) (x := 76) (by decide) (TBof tbs_137 _ rfl) rfl ?_
            refine ev_callvI (pc1 := 79) (as := [.int 0, .int 76]) (r := []) (TBof tbs_137 _ rfl) rfl (lnkof mo_137 ln_4_186) rfl na_134 ltc_73 (sh_73.trans (by rw [mo_134])) (Nat.le_of_ble_eq_true rfl) H (fun x11 M11 h11 D11 H => ?_)
            exact ev_ireturn (TBof tbs_137 _ rfl) (retI_i rt_137) ⟨_, rfl, H⟩
          · refine ⟨38, 80, by rw [e10]; rfl, by decide, ?_⟩
            replace H := H.2.1 (Int32.toInt_inj.mp (by rw [e10]; decide))
            refine ev_aload_n (pc1 := 81) rfl rfl (TBof tbs_137 _ rfl) rfl ?_
            refine ev_iconst (pc1 := 82) (x := 0) (by decide) (TBof tbs_137 _ rfl) rfl ?_
            refine ev_bipush (pc1 := 84) (x := 16) (by decide) (TBof tbs_137 _ rfl) rfl ?_
            refine ev_callvI (pc1 := 87) (as := [.int 0, .int 16]) (r := []) (TBof tbs_137 _ rfl) rfl (lnkof mo_137 ln_4_190) rfl na_135 ltc_73 (sh_73.trans (by rw [mo_135])) (Nat.le_of_ble_eq_true rfl) H (fun x12 M12 h12 D12 H => ?_)
            exact ev_ireturn (TBof tbs_137 _ rfl) (retI_i rt_137) ⟨_, rfl, H⟩
          · refine ⟨46, 88, by rw [e10]; rfl, by decide, ?_⟩
            replace H := H.2.2.1 (Int32.toInt_inj.mp (by rw [e10]; decide))
            refine ev_aload_n (pc1 := 89) rfl rfl (TBof tbs_137 _ rfl) rfl ?_
            refine ev_bipush (pc1 := 91) (x := 16) (by decide) (TBof tbs_137 _ rfl) rfl ?_
            refine ev_bipush (pc1 := 93) (x := 28) (by decide) (TBof tbs_137 _ rfl) rfl ?_
            refine ev_callvI (pc1 := 96) (as := [.int 16, .int 28]) (r := []) (TBof tbs_137 _ rfl) rfl (lnkof mo_137 ln_4_190) rfl na_135 ltc_73 (sh_73.trans (by rw [mo_135])) (Nat.le_of_ble_eq_true rfl) H (fun x13 M13 h13 D13 H => ?_)
            exact ev_ireturn (TBof tbs_137 _ rfl) (retI_i rt_137) ⟨_, rfl, H⟩
          · refine ⟨55, 97, by rw [e10]; rfl, by decide, ?_⟩
            replace H := H.2.2.2 (Int32.toInt_inj.mp (by rw [e10]; decide))
            refine ev_aload_n (pc1 := 98) rfl rfl (TBof tbs_137 _ rfl) rfl ?_
            refine ev_bipush (pc1 := 100) (x := 28) (by decide) (TBof tbs_137 _ rfl) rfl ?_
            refine ev_bipush (pc1 := 102) (x := 76) (by decide) (TBof tbs_137 _ rfl) rfl ?_
            refine ev_callvI (pc1 := 105) (as := [.int 28, .int 76]) (r := []) (TBof tbs_137 _ rfl) rfl (lnkof mo_137 ln_4_186) rfl na_134 ltc_73 (sh_73.trans (by rw [mo_134])) (Nat.le_of_ble_eq_true rfl) H (fun x14 M14 h14 D14 H => ?_)
            exact ev_ireturn (TBof tbs_137 _ rfl) (retI_i rt_137) ⟨_, rfl, H⟩
      · replace H := H.2 c8
        refine ev_bipush (pc1 := 40) (x := (-4)) (by decide) (TBof tbs_137 _ rfl) rfl ?_
        exact ev_ireturn (TBof tbs_137 _ rfl) (retI_i rt_137) ⟨_, rfl, H⟩
    · replace H := H.2 c4
      refine ev_bipush (pc1 := 21) (x := (-2)) (by decide) (TBof tbs_137 _ rfl) rfl ?_
      exact ev_ireturn (TBof tbs_137 _ rfl) (retI_i rt_137) ⟨_, rfl, H⟩
  · replace H := H.2 c2
    refine ev_iconst (pc1 := 9) (x := (-1)) (by decide) (TBof tbs_137 _ rfl) rfl ?_
    exact ev_ireturn (TBof tbs_137 _ rfl) (retI_i rt_137) ⟨_, rfl, H⟩
set_option maxRecDepth 100000 in
theorem R_X4_hint_0 {d : Nat} {v1 : Int32} {M : Im} {h : Hm} {D : Dm} {Q : Int32 → Im → Hm → Dm → Prop} (H : CI d nX4_isDrawer [.ref 73, .int v1] M h D (fun x1 M1 h1 D1 => ((¬ (x1 = 0)) → (CI d nX4_isGame [.ref 73] M1 h1 D1 (fun x3 M3 h3 D3 => ((¬ (x3 = 0)) → (CV d nX4_reckon [.ref 73, .int 1] M3 h3 D3 (fun M5 h5 D5 => CI d nX4_gather [.ref 73, .int v1] M5 h5 D5 (fun x6 M6 h6 D6 => ((¬ (x6 = 0)) → (EvI d nX4_hint 38 [(0, .ref 73), (1, .int v1), (2, .int 0)] [] M6 h6 D6 Q)) ∧ (¬ (¬ (x6 = 0)) → (Q (-4) M6 h6 D6)))))) ∧ (¬ (¬ (x3 = 0)) → (Q (-4) M3 h3 D3))))) ∧ (¬ (¬ (x1 = 0)) → (Q (-1) M1 h1 D1)))) : EvI d nX4_hint 0 [(0, .ref 73), (1, .int v1)] [] M h D Q := by
  refine ev_aload_n (pc1 := 1) rfl rfl (TBof tbs_138 _ rfl) rfl ?_
  refine ev_iload_n (pc1 := 2) rfl (TBof tbs_138 _ rfl) rfl ?_
  refine ev_callvI (pc1 := 5) (as := [.int v1]) (r := []) (TBof tbs_138 _ rfl) rfl (lnkof mo_138 ln_4_58) rfl na_88 ltc_73 (sh_73.trans (by rw [mo_88])) (Nat.le_of_ble_eq_true rfl) H (fun x1 M1 h1 D1 H => ?_)
  refine ev_if (pc1 := 8) (t := 10) (TBof tbs_138 _ rfl) (by decide) rfl (fun c2 => ?_) (fun c2 => ?_)
  · replace H := H.1 c2
    refine ev_aload_n (pc1 := 11) rfl rfl (TBof tbs_138 _ rfl) rfl ?_
    refine ev_callvI (pc1 := 14) (as := []) (r := []) (TBof tbs_138 _ rfl) rfl (lnkof mo_138 ln_4_62) rfl na_89 ltc_73 (sh_73.trans (by rw [mo_89])) (Nat.le_of_ble_eq_true rfl) H (fun x3 M3 h3 D3 H => ?_)
    refine ev_if (pc1 := 17) (t := 20) (TBof tbs_138 _ rfl) (by decide) rfl (fun c4 => ?_) (fun c4 => ?_)
    · replace H := H.1 c4
      refine ev_aload_n (pc1 := 21) rfl rfl (TBof tbs_138 _ rfl) rfl ?_
      refine ev_iconst (pc1 := 22) (x := 1) (by decide) (TBof tbs_138 _ rfl) rfl ?_
      refine ev_callvV (pc1 := 25) (as := [.int 1]) (r := []) (TBof tbs_138 _ rfl) rfl (lnkof mo_138 ln_4_179) rfl na_131 ltc_73 (sh_73.trans (by rw [mo_131])) (Nat.le_of_ble_eq_true rfl) H (fun M5 h5 D5 H => ?_)
      refine ev_aload_n (pc1 := 26) rfl rfl (TBof tbs_138 _ rfl) rfl ?_
      refine ev_iload_n (pc1 := 27) rfl (TBof tbs_138 _ rfl) rfl ?_
      refine ev_callvI (pc1 := 30) (as := [.int v1]) (r := []) (TBof tbs_138 _ rfl) rfl (lnkof mo_138 ln_4_183) rfl na_133 ltc_73 (sh_73.trans (by rw [mo_133])) (Nat.le_of_ble_eq_true rfl) H (fun x6 M6 h6 D6 H => ?_)
      refine ev_if (pc1 := 33) (t := 36) (TBof tbs_138 _ rfl) (by decide) rfl (fun c7 => ?_) (fun c7 => ?_)
      · replace H := H.1 c7
        refine ev_iconst (pc1 := 37) (x := 0) (by decide) (TBof tbs_138 _ rfl) rfl ?_
        refine ev_istore_n (pc1 := 38) (L1 := [(2, .int 0), (0, .ref 73), (1, .int v1)]) (by rw [ml_138]; decide) rfl (TBof tbs_138 _ rfl) rfl ?_
        exact ev_le [1, 2, 0] rfl rfl H
      · replace H := H.2 c7
        refine ev_bipush (pc1 := 35) (x := (-4)) (by decide) (TBof tbs_138 _ rfl) rfl ?_
        exact ev_ireturn (TBof tbs_138 _ rfl) (retI_i rt_138) ⟨_, rfl, H⟩
    · replace H := H.2 c4
      refine ev_bipush (pc1 := 19) (x := (-4)) (by decide) (TBof tbs_138 _ rfl) rfl ?_
      exact ev_ireturn (TBof tbs_138 _ rfl) (retI_i rt_138) ⟨_, rfl, H⟩
  · replace H := H.2 c2
    refine ev_iconst (pc1 := 9) (x := (-1)) (by decide) (TBof tbs_138 _ rfl) rfl ?_
    exact ev_ireturn (TBof tbs_138 _ rfl) (retI_i rt_138) ⟨_, rfl, H⟩
set_option maxRecDepth 100000 in
theorem R_X4_hint_38 {d : Nat} {v1 v2 : Int32} {M : Im} {h : Hm} {D : Dm} {Q : Int32 → Im → Hm → Dm → Prop} (H : vp_in 0 168 ∧ ((((M 74 ((0 : Int32).toNatClampNeg)) ≤ v2) → (EvI d nX4_hint 78 [(0, .ref 73), (1, .int v1), (2, .int 0)] [] M h D Q)) ∧ (¬ ((M 74 ((0 : Int32).toNatClampNeg)) ≤ v2) → (vp_in v2 76 ∧ ((((M 81 (v2.toNatClampNeg)) = 0) → (EvI d nX4_hint 38 [(0, .ref 73), (1, .int v1), (2, .int (v2 + 1))] [] M h D Q)) ∧ (¬ ((M 81 (v2.toNatClampNeg)) = 0) → (CI d nX4_canOpen [.ref 73, .int v2] M h D (fun x3 M3 h3 D3 => ((x3 = 0) → (EvI d nX4_hint 38 [(0, .ref 73), (1, .int v1), (2, .int (v2 + 1))] [] M3 h3 D3 Q)) ∧ (¬ (x3 = 0) → (Q (100 + v2) M3 h3 D3)))))))))) : EvI d nX4_hint 38 [(0, .ref 73), (1, .int v1), (2, .int v2)] [] M h D Q := by
  refine ev_iload_n (pc1 := 39) rfl (TBof tbs_138 _ rfl) rfl ?_
  refine ev_aload_n (pc1 := 40) rfl rfl (TBof tbs_138 _ rfl) rfl ?_
  refine ev_getP (pc1 := 43) (ci := 4) (k := 0) (a := 74) (TBof tbs_138 _ rfl) rfl (fldof mo_138 fl_4_7) ltc_73 sh_73 nk_4_0 fp_4_0 (by decide) pf_73_0 ?_
  refine ev_iconst (pc1 := 44) (x := 0) (by decide) (TBof tbs_138 _ rfl) rfl ?_
  refine ev_iaload (pc1 := 45) (n := 168) (TBof tbs_138 _ rfl) rfl ltc_74 sh_74 H.1 ?_
  replace H := H.2
  refine ev_icmp (pc1 := 48) (t := 76) (TBof tbs_138 _ rfl) (by decide) rfl (fun c1 => ?_) (fun c1 => ?_)
  · replace H := H.1 c1
    refine ev_iconst (pc1 := 77) (x := 0) (by decide) (TBof tbs_138 _ rfl) rfl ?_
    refine ev_istore_n (pc1 := 78) (L1 := [(2, .int 0), (0, .ref 73), (1, .int v1)]) (by rw [ml_138]; decide) rfl (TBof tbs_138 _ rfl) rfl ?_
    exact ev_le [1, 2, 0] rfl rfl H
  · replace H := H.2 c1
    refine ev_aload_n (pc1 := 49) rfl rfl (TBof tbs_138 _ rfl) rfl ?_
    refine ev_getP (pc1 := 52) (ci := 4) (k := 7) (a := 81) (TBof tbs_138 _ rfl) rfl (fldof mo_138 fl_4_33) ltc_73 sh_73 nk_4_7 fp_4_7 (by decide) pf_73_7 ?_
    refine ev_iload_n (pc1 := 53) rfl (TBof tbs_138 _ rfl) rfl ?_
    refine ev_baload (pc1 := 54) (n := 76) (TBof tbs_138 _ rfl) rfl ltc_81 sh_81 H.1 ?_
    replace H := H.2
    refine ev_if (pc1 := 57) (t := 70) (TBof tbs_138 _ rfl) (by decide) rfl (fun c2 => ?_) (fun c2 => ?_)
    · replace H := H.1 c2
      refine ev_iinc (pc1 := 73) (n := 2) (c := 1) (x := v2) (cc := 1) (L1 := [(2, .int (v2 + 1)), (0, .ref 73), (1, .int v1)]) rfl (by rw [ml_138]; decide) (by decide) rfl (TBof tbs_138 _ rfl) rfl ?_
      refine ev_goto (pc1 := 38) (TBof tbs_138 _ rfl) (by decide) ?_
      exact ev_le [1, 2, 0] rfl rfl H
    · replace H := H.2 c2
      refine ev_aload_n (pc1 := 58) rfl rfl (TBof tbs_138 _ rfl) rfl ?_
      refine ev_iload_n (pc1 := 59) rfl (TBof tbs_138 _ rfl) rfl ?_
      refine ev_callvI (pc1 := 62) (as := [.int v2]) (r := []) (TBof tbs_138 _ rfl) rfl (lnkof mo_138 ln_4_113) rfl na_107 ltc_73 (sh_73.trans (by rw [mo_107])) (Nat.le_of_ble_eq_true rfl) H (fun x3 M3 h3 D3 H => ?_)
      refine ev_if (pc1 := 65) (t := 70) (TBof tbs_138 _ rfl) (by decide) rfl (fun c4 => ?_) (fun c4 => ?_)
      · replace H := H.1 c4
        refine ev_iinc (pc1 := 73) (n := 2) (c := 1) (x := v2) (cc := 1) (L1 := [(2, .int (v2 + 1)), (0, .ref 73), (1, .int v1)]) rfl (by rw [ml_138]; decide) (by decide) rfl (TBof tbs_138 _ rfl) rfl ?_
        refine ev_goto (pc1 := 38) (TBof tbs_138 _ rfl) (by decide) ?_
        exact ev_le [1, 2, 0] rfl rfl H
      · replace H := H.2 c4
        refine ev_bipush (pc1 := 67) (x := 100) (by decide) (TBof tbs_138 _ rfl) rfl ?_
        refine ev_iload_n (pc1 := 68) rfl (TBof tbs_138 _ rfl) rfl ?_
        refine ev_iadd (pc1 := 69) (TBof tbs_138 _ rfl) rfl ?_
        exact ev_ireturn (TBof tbs_138 _ rfl) (retI_i rt_138) ⟨_, rfl, H⟩
set_option maxRecDepth 100000 in
theorem R_X4_hint_78 {d : Nat} {v1 v2 : Int32} {M : Im} {h : Hm} {D : Dm} {Q : Int32 → Im → Hm → Dm → Prop} (H : ((12 ≤ v2) → (EvI d nX4_hint 118 [(0, .ref 73), (1, .int v1), (2, .int 0)] [] M h D Q)) ∧ (¬ (12 ≤ v2) → (vp_in (16 + v2) 76 ∧ ((((M 81 ((16 + v2).toNatClampNeg)) = 0) → (EvI d nX4_hint 78 [(0, .ref 73), (1, .int v1), (2, .int (v2 + 1))] [] M h D Q)) ∧ (¬ ((M 81 ((16 + v2).toNatClampNeg)) = 0) → (CI d nX4_canTake [.ref 73, .int v2] M h D (fun x3 M3 h3 D3 => ((x3 = 0) → (EvI d nX4_hint 78 [(0, .ref 73), (1, .int v1), (2, .int (v2 + 1))] [] M3 h3 D3 Q)) ∧ (¬ (x3 = 0) → (Q (200 + v2) M3 h3 D3))))))))) : EvI d nX4_hint 78 [(0, .ref 73), (1, .int v1), (2, .int v2)] [] M h D Q := by
  refine ev_iload_n (pc1 := 79) rfl (TBof tbs_138 _ rfl) rfl ?_
  refine ev_bipush (pc1 := 81) (x := 12) (by decide) (TBof tbs_138 _ rfl) rfl ?_
  refine ev_icmp (pc1 := 84) (t := 116) (TBof tbs_138 _ rfl) (by decide) rfl (fun c1 => ?_) (fun c1 => ?_)
  · replace H := H.1 c1
    refine ev_iconst (pc1 := 117) (x := 0) (by decide) (TBof tbs_138 _ rfl) rfl ?_
    refine ev_istore_n (pc1 := 118) (L1 := [(2, .int 0), (0, .ref 73), (1, .int v1)]) (by rw [ml_138]; decide) rfl (TBof tbs_138 _ rfl) rfl ?_
    exact ev_le [1, 2, 0] rfl rfl H
  · replace H := H.2 c1
    refine ev_aload_n (pc1 := 85) rfl rfl (TBof tbs_138 _ rfl) rfl ?_
    refine ev_getP (pc1 := 88) (ci := 4) (k := 7) (a := 81) (TBof tbs_138 _ rfl) rfl (fldof mo_138 fl_4_33) ltc_73 sh_73 nk_4_7 fp_4_7 (by decide) pf_73_7 ?_
    refine ev_bipush (pc1 := 90) (x := 16) (by decide) (TBof tbs_138 _ rfl) rfl ?_
    refine ev_iload_n (pc1 := 91) rfl (TBof tbs_138 _ rfl) rfl ?_
    refine ev_iadd (pc1 := 92) (TBof tbs_138 _ rfl) rfl ?_
    refine ev_baload (pc1 := 93) (n := 76) (TBof tbs_138 _ rfl) rfl ltc_81 sh_81 H.1 ?_
    replace H := H.2
    refine ev_if (pc1 := 96) (t := 110) (TBof tbs_138 _ rfl) (by decide) rfl (fun c2 => ?_) (fun c2 => ?_)
    · replace H := H.1 c2
      refine ev_iinc (pc1 := 113) (n := 2) (c := 1) (x := v2) (cc := 1) (L1 := [(2, .int (v2 + 1)), (0, .ref 73), (1, .int v1)]) rfl (by rw [ml_138]; decide) (by decide) rfl (TBof tbs_138 _ rfl) rfl ?_
      refine ev_goto (pc1 := 78) (TBof tbs_138 _ rfl) (by decide) ?_
      exact ev_le [1, 2, 0] rfl rfl H
    · replace H := H.2 c2
      refine ev_aload_n (pc1 := 97) rfl rfl (TBof tbs_138 _ rfl) rfl ?_
      refine ev_iload_n (pc1 := 98) rfl (TBof tbs_138 _ rfl) rfl ?_
      refine ev_callvI (pc1 := 101) (as := [.int v2]) (r := []) (TBof tbs_138 _ rfl) rfl (lnkof mo_138 ln_4_132) rfl na_109 ltc_73 (sh_73.trans (by rw [mo_109])) (Nat.le_of_ble_eq_true rfl) H (fun x3 M3 h3 D3 H => ?_)
      refine ev_if (pc1 := 104) (t := 110) (TBof tbs_138 _ rfl) (by decide) rfl (fun c4 => ?_) (fun c4 => ?_)
      · replace H := H.1 c4
        refine ev_iinc (pc1 := 113) (n := 2) (c := 1) (x := v2) (cc := 1) (L1 := [(2, .int (v2 + 1)), (0, .ref 73), (1, .int v1)]) rfl (by rw [ml_138]; decide) (by decide) rfl (TBof tbs_138 _ rfl) rfl ?_
        refine ev_goto (pc1 := 78) (TBof tbs_138 _ rfl) (by decide) ?_
        exact ev_le [1, 2, 0] rfl rfl H
      · replace H := H.2 c4
        refine ev_sipush (pc1 := 107) (x := 200) (by decide) (TBof tbs_138 _ rfl) rfl ?_
        refine ev_iload_n (pc1 := 108) rfl (TBof tbs_138 _ rfl) rfl ?_
        refine ev_iadd (pc1 := 109) (TBof tbs_138 _ rfl) rfl ?_
        exact ev_ireturn (TBof tbs_138 _ rfl) (retI_i rt_138) ⟨_, rfl, H⟩
set_option maxRecDepth 100000 in
theorem R_X4_hint_118 {d : Nat} {v1 v2 : Int32} {M : Im} {h : Hm} {D : Dm} {Q : Int32 → Im → Hm → Dm → Prop} (H : vp_in 0 168 ∧ ((((M 74 ((0 : Int32).toNatClampNeg)) ≤ v2) → (Q (-5) M h D)) ∧ (¬ ((M 74 ((0 : Int32).toNatClampNeg)) ≤ v2) → (CI d nX4_d [.int v2] M h D (fun x2 M2 h2 D2 => vp_in (x2 + 5) 168 ∧ (((3 ≤ (M2 74 ((x2 + 5).toNatClampNeg))) → (EvI d nX4_hint 168 [(0, .ref 73), (1, .int v1), (2, .int v2)] [.int 2, .int (28 + (3 * v2)), .ref 81] M2 h2 D2 Q)) ∧ (¬ (3 ≤ (M2 74 ((x2 + 5).toNatClampNeg))) → (CI d nX4_d [.int v2] M2 h2 D2 (fun x4 M4 h4 D4 => vp_in (x4 + 5) 168 ∧ (EvI d nX4_hint 168 [(0, .ref 73), (1, .int v1), (2, .int v2)] [.int (M4 74 ((x4 + 5).toNatClampNeg)), .int (28 + (3 * v2)), .ref 81] M4 h4 D4 Q)))))))))) : EvI d nX4_hint 118 [(0, .ref 73), (1, .int v1), (2, .int v2)] [] M h D Q := by
  refine ev_iload_n (pc1 := 119) rfl (TBof tbs_138 _ rfl) rfl ?_
  refine ev_aload_n (pc1 := 120) rfl rfl (TBof tbs_138 _ rfl) rfl ?_
  refine ev_getP (pc1 := 123) (ci := 4) (k := 0) (a := 74) (TBof tbs_138 _ rfl) rfl (fldof mo_138 fl_4_7) ltc_73 sh_73 nk_4_0 fp_4_0 (by decide) pf_73_0 ?_
  refine ev_iconst (pc1 := 124) (x := 0) (by decide) (TBof tbs_138 _ rfl) rfl ?_
  refine ev_iaload (pc1 := 125) (n := 168) (TBof tbs_138 _ rfl) rfl ltc_74 sh_74 H.1 ?_
  replace H := H.2
  refine ev_icmp (pc1 := 128) (t := 193) (TBof tbs_138 _ rfl) (by decide) rfl (fun c1 => ?_) (fun c1 => ?_)
  · replace H := H.1 c1
    refine ev_bipush (pc1 := 195) (x := (-5)) (by decide) (TBof tbs_138 _ rfl) rfl ?_
    exact ev_ireturn (TBof tbs_138 _ rfl) (retI_i rt_138) ⟨_, rfl, H⟩
  · replace H := H.2 c1
    refine ev_aload_n (pc1 := 129) rfl rfl (TBof tbs_138 _ rfl) rfl ?_
    refine ev_getP (pc1 := 132) (ci := 4) (k := 7) (a := 81) (TBof tbs_138 _ rfl) rfl (fldof mo_138 fl_4_33) ltc_73 sh_73 nk_4_7 fp_4_7 (by decide) pf_73_7 ?_
    refine ev_bipush (pc1 := 134) (x := 28) (by decide) (TBof tbs_138 _ rfl) rfl ?_
    refine ev_iconst (pc1 := 135) (x := 3) (by decide) (TBof tbs_138 _ rfl) rfl ?_
    refine ev_iload_n (pc1 := 136) rfl (TBof tbs_138 _ rfl) rfl ?_
    refine ev_imul (pc1 := 137) (TBof tbs_138 _ rfl) rfl ?_
    refine ev_iadd (pc1 := 138) (TBof tbs_138 _ rfl) rfl ?_
    refine ev_aload_n (pc1 := 139) rfl rfl (TBof tbs_138 _ rfl) rfl ?_
    refine ev_getP (pc1 := 142) (ci := 4) (k := 0) (a := 74) (TBof tbs_138 _ rfl) rfl (fldof mo_138 fl_4_7) ltc_73 sh_73 nk_4_0 fp_4_0 (by decide) pf_73_0 ?_
    refine ev_iload_n (pc1 := 143) rfl (TBof tbs_138 _ rfl) rfl ?_
    refine ev_callsI (pc1 := 146) (as := [.int v2]) (r := [.ref 74, .int (28 + (3 * v2)), .ref 81]) (TBof tbs_138 _ rfl) rfl (lnkof mo_138 ln_4_55) (Or.inl rfl) rfl na_86 (Nat.le_of_ble_eq_true rfl) H (fun x2 M2 h2 D2 H => ?_)
    refine ev_iconst (pc1 := 147) (x := 5) (by decide) (TBof tbs_138 _ rfl) rfl ?_
    refine ev_iadd (pc1 := 148) (TBof tbs_138 _ rfl) rfl ?_
    refine ev_iaload (pc1 := 149) (n := 168) (TBof tbs_138 _ rfl) rfl ltc_74 sh_74 H.1 ?_
    replace H := H.2
    refine ev_iconst (pc1 := 150) (x := 3) (by decide) (TBof tbs_138 _ rfl) rfl ?_
    refine ev_icmp (pc1 := 153) (t := 167) (TBof tbs_138 _ rfl) (by decide) rfl (fun c3 => ?_) (fun c3 => ?_)
    · replace H := H.1 c3
      refine ev_iconst (pc1 := 168) (x := 2) (by decide) (TBof tbs_138 _ rfl) rfl ?_
      exact ev_le [0, 1, 2] rfl rfl H
    · replace H := H.2 c3
      refine ev_aload_n (pc1 := 154) rfl rfl (TBof tbs_138 _ rfl) rfl ?_
      refine ev_getP (pc1 := 157) (ci := 4) (k := 0) (a := 74) (TBof tbs_138 _ rfl) rfl (fldof mo_138 fl_4_7) ltc_73 sh_73 nk_4_0 fp_4_0 (by decide) pf_73_0 ?_
      refine ev_iload_n (pc1 := 158) rfl (TBof tbs_138 _ rfl) rfl ?_
      refine ev_callsI (pc1 := 161) (as := [.int v2]) (r := [.ref 74, .int (28 + (3 * v2)), .ref 81]) (TBof tbs_138 _ rfl) rfl (lnkof mo_138 ln_4_55) (Or.inl rfl) rfl na_86 (Nat.le_of_ble_eq_true rfl) H (fun x4 M4 h4 D4 H => ?_)
      refine ev_iconst (pc1 := 162) (x := 5) (by decide) (TBof tbs_138 _ rfl) rfl ?_
      refine ev_iadd (pc1 := 163) (TBof tbs_138 _ rfl) rfl ?_
      refine ev_iaload (pc1 := 164) (n := 168) (TBof tbs_138 _ rfl) rfl ltc_74 sh_74 H.1 ?_
      replace H := H.2
      refine ev_goto (pc1 := 168) (TBof tbs_138 _ rfl) (by decide) ?_
      exact ev_le [0, 1, 2] rfl rfl H
set_option maxRecDepth 100000 in
theorem R_X4_hint_168 {d : Nat} {v1 v2 s0 s1 : Int32} {M : Im} {h : Hm} {D : Dm} {Q : Int32 → Im → Hm → Dm → Prop} (H : vp_in (s1 + s0) 76 ∧ ((((M 81 ((s1 + s0).toNatClampNeg)) = 0) → (EvI d nX4_hint 118 [(0, .ref 73), (1, .int v1), (2, .int (v2 + 1))] [] M h D Q)) ∧ (¬ ((M 81 ((s1 + s0).toNatClampNeg)) = 0) → (CI d nX4_canLift [.ref 73, .int v2] M h D (fun x2 M2 h2 D2 => ((x2 = 0) → (EvI d nX4_hint 118 [(0, .ref 73), (1, .int v1), (2, .int (v2 + 1))] [] M2 h2 D2 Q)) ∧ (¬ (x2 = 0) → (Q (300 + v2) M2 h2 D2))))))) : EvI d nX4_hint 168 [(0, .ref 73), (1, .int v1), (2, .int v2)] [.int s0, .int s1, .ref 81] M h D Q := by
  refine ev_iadd (pc1 := 169) (TBof tbs_138 _ rfl) rfl ?_
  refine ev_baload (pc1 := 170) (n := 76) (TBof tbs_138 _ rfl) rfl ltc_81 sh_81 H.1 ?_
  replace H := H.2
  refine ev_if (pc1 := 173) (t := 187) (TBof tbs_138 _ rfl) (by decide) rfl (fun c1 => ?_) (fun c1 => ?_)
  · replace H := H.1 c1
    refine ev_iinc (pc1 := 190) (n := 2) (c := 1) (x := v2) (cc := 1) (L1 := [(2, .int (v2 + 1)), (0, .ref 73), (1, .int v1)]) rfl (by rw [ml_138]; decide) (by decide) rfl (TBof tbs_138 _ rfl) rfl ?_
    refine ev_goto (pc1 := 118) (TBof tbs_138 _ rfl) (by decide) ?_
    exact ev_le [1, 2, 0] rfl rfl H
  · replace H := H.2 c1
    refine ev_aload_n (pc1 := 174) rfl rfl (TBof tbs_138 _ rfl) rfl ?_
    refine ev_iload_n (pc1 := 175) rfl (TBof tbs_138 _ rfl) rfl ?_
    refine ev_callvI (pc1 := 178) (as := [.int v2]) (r := []) (TBof tbs_138 _ rfl) rfl (lnkof mo_138 ln_4_127) rfl na_108 ltc_73 (sh_73.trans (by rw [mo_108])) (Nat.le_of_ble_eq_true rfl) H (fun x2 M2 h2 D2 H => ?_)
    refine ev_if (pc1 := 181) (t := 187) (TBof tbs_138 _ rfl) (by decide) rfl (fun c3 => ?_) (fun c3 => ?_)
    · replace H := H.1 c3
      refine ev_iinc (pc1 := 190) (n := 2) (c := 1) (x := v2) (cc := 1) (L1 := [(2, .int (v2 + 1)), (0, .ref 73), (1, .int v1)]) rfl (by rw [ml_138]; decide) (by decide) rfl (TBof tbs_138 _ rfl) rfl ?_
      refine ev_goto (pc1 := 118) (TBof tbs_138 _ rfl) (by decide) ?_
      exact ev_le [1, 2, 0] rfl rfl H
    · replace H := H.2 c3
      refine ev_sipush (pc1 := 184) (x := 300) (by decide) (TBof tbs_138 _ rfl) rfl ?_
      refine ev_iload_n (pc1 := 185) rfl (TBof tbs_138 _ rfl) rfl ?_
      refine ev_iadd (pc1 := 186) (TBof tbs_138 _ rfl) rfl ?_
      exact ev_ireturn (TBof tbs_138 _ rfl) (retI_i rt_138) ⟨_, rfl, H⟩
set_option maxRecDepth 100000 in
theorem R_X4_thingsIn_0 {d : Nat} {v1 : Int32} {M : Im} {h : Hm} {D : Dm} {Q : Int32 → Im → Hm → Dm → Prop} (H : EvI d nX4_thingsIn 4 [(0, .ref 73), (1, .int v1), (2, .int 0), (3, .int 0)] [] M h D Q) : EvI d nX4_thingsIn 0 [(0, .ref 73), (1, .int v1)] [] M h D Q := by
  refine ev_iconst (pc1 := 1) (x := 0) (by decide) (TBof tbs_139 _ rfl) rfl ?_
  refine ev_istore_n (pc1 := 2) (L1 := [(2, .int 0), (0, .ref 73), (1, .int v1)]) (by rw [ml_139]; decide) rfl (TBof tbs_139 _ rfl) rfl ?_
  refine ev_iconst (pc1 := 3) (x := 0) (by decide) (TBof tbs_139 _ rfl) rfl ?_
  refine ev_istore_n (pc1 := 4) (L1 := [(3, .int 0), (2, .int 0), (0, .ref 73), (1, .int v1)]) (by rw [ml_139]; decide) rfl (TBof tbs_139 _ rfl) rfl ?_
  exact ev_le [2, 3, 1, 0] rfl rfl H
set_option maxRecDepth 100000 in
theorem R_X4_thingsIn_4 {d : Nat} {v1 v2 v3 : Int32} {M : Im} {h : Hm} {D : Dm} {Q : Int32 → Im → Hm → Dm → Prop} (H : ((12 ≤ v3) → (Q v2 M h D)) ∧ (¬ (12 ≤ v3) → (CI d nX4_t [.int v3] M h D (fun x2 M2 h2 D2 => vp_in (x2 + 0) 168 ∧ (((¬ ((M2 74 ((x2 + 0).toNatClampNeg)) = v1)) → (EvI d nX4_thingsIn 4 [(0, .ref 73), (1, .int v1), (2, .int (v2 + 0)), (3, .int (v3 + 1))] [] M2 h2 D2 Q)) ∧ (¬ (¬ ((M2 74 ((x2 + 0).toNatClampNeg)) = v1)) → (CI d nX4_t [.int v3] M2 h2 D2 (fun x4 M4 h4 D4 => vp_in (x4 + 2) 168 ∧ (((¬ ((M4 74 ((x4 + 2).toNatClampNeg)) = 0)) → (EvI d nX4_thingsIn 4 [(0, .ref 73), (1, .int v1), (2, .int (v2 + 0)), (3, .int (v3 + 1))] [] M4 h4 D4 Q)) ∧ (¬ (¬ ((M4 74 ((x4 + 2).toNatClampNeg)) = 0)) → (EvI d nX4_thingsIn 4 [(0, .ref 73), (1, .int v1), (2, .int (v2 + 1)), (3, .int (v3 + 1))] [] M4 h4 D4 Q))))))))))) : EvI d nX4_thingsIn 4 [(0, .ref 73), (1, .int v1), (2, .int v2), (3, .int v3)] [] M h D Q := by
  refine ev_iload_n (pc1 := 5) rfl (TBof tbs_139 _ rfl) rfl ?_
  refine ev_bipush (pc1 := 7) (x := 12) (by decide) (TBof tbs_139 _ rfl) rfl ?_
  refine ev_icmp (pc1 := 10) (t := 53) (TBof tbs_139 _ rfl) (by decide) rfl (fun c1 => ?_) (fun c1 => ?_)
  · replace H := H.1 c1
    refine ev_iload_n (pc1 := 54) rfl (TBof tbs_139 _ rfl) rfl ?_
    exact ev_ireturn (TBof tbs_139 _ rfl) (retI_i rt_139) ⟨_, rfl, H⟩
  · replace H := H.2 c1
    refine ev_iload_n (pc1 := 11) rfl (TBof tbs_139 _ rfl) rfl ?_
    refine ev_aload_n (pc1 := 12) rfl rfl (TBof tbs_139 _ rfl) rfl ?_
    refine ev_getP (pc1 := 15) (ci := 4) (k := 0) (a := 74) (TBof tbs_139 _ rfl) rfl (fldof mo_139 fl_4_7) ltc_73 sh_73 nk_4_0 fp_4_0 (by decide) pf_73_0 ?_
    refine ev_iload_n (pc1 := 16) rfl (TBof tbs_139 _ rfl) rfl ?_
    refine ev_callsI (pc1 := 19) (as := [.int v3]) (r := [.ref 74, .int v2]) (TBof tbs_139 _ rfl) rfl (lnkof mo_139 ln_4_43) (Or.inl rfl) rfl na_85 (Nat.le_of_ble_eq_true rfl) H (fun x2 M2 h2 D2 H => ?_)
    refine ev_iconst (pc1 := 20) (x := 0) (by decide) (TBof tbs_139 _ rfl) rfl ?_
    refine ev_iadd (pc1 := 21) (TBof tbs_139 _ rfl) rfl ?_
    refine ev_iaload (pc1 := 22) (n := 168) (TBof tbs_139 _ rfl) rfl ltc_74 sh_74 H.1 ?_
    replace H := H.2
    refine ev_iload_n (pc1 := 23) rfl (TBof tbs_139 _ rfl) rfl ?_
    refine ev_icmp (pc1 := 26) (t := 44) (TBof tbs_139 _ rfl) (by decide) rfl (fun c3 => ?_) (fun c3 => ?_)
    · replace H := H.1 c3
      refine ev_iconst (pc1 := 45) (x := 0) (by decide) (TBof tbs_139 _ rfl) rfl ?_
      refine ev_iadd (pc1 := 46) (TBof tbs_139 _ rfl) rfl ?_
      refine ev_istore_n (pc1 := 47) (L1 := [(2, .int (v2 + 0)), (0, .ref 73), (1, .int v1), (3, .int v3)]) (by rw [ml_139]; decide) rfl (TBof tbs_139 _ rfl) rfl ?_
      refine ev_iinc (pc1 := 50) (n := 3) (c := 1) (x := v3) (cc := 1) (L1 := [(3, .int (v3 + 1)), (2, .int (v2 + 0)), (0, .ref 73), (1, .int v1)]) rfl (by rw [ml_139]; decide) (by decide) rfl (TBof tbs_139 _ rfl) rfl ?_
      refine ev_goto (pc1 := 4) (TBof tbs_139 _ rfl) (by decide) ?_
      exact ev_le [2, 3, 1, 0] rfl rfl H
    · replace H := H.2 c3
      refine ev_aload_n (pc1 := 27) rfl rfl (TBof tbs_139 _ rfl) rfl ?_
      refine ev_getP (pc1 := 30) (ci := 4) (k := 0) (a := 74) (TBof tbs_139 _ rfl) rfl (fldof mo_139 fl_4_7) ltc_73 sh_73 nk_4_0 fp_4_0 (by decide) pf_73_0 ?_
      refine ev_iload_n (pc1 := 31) rfl (TBof tbs_139 _ rfl) rfl ?_
      refine ev_callsI (pc1 := 34) (as := [.int v3]) (r := [.ref 74, .int v2]) (TBof tbs_139 _ rfl) rfl (lnkof mo_139 ln_4_43) (Or.inl rfl) rfl na_85 (Nat.le_of_ble_eq_true rfl) H (fun x4 M4 h4 D4 H => ?_)
      refine ev_iconst (pc1 := 35) (x := 2) (by decide) (TBof tbs_139 _ rfl) rfl ?_
      refine ev_iadd (pc1 := 36) (TBof tbs_139 _ rfl) rfl ?_
      refine ev_iaload (pc1 := 37) (n := 168) (TBof tbs_139 _ rfl) rfl ltc_74 sh_74 H.1 ?_
      replace H := H.2
      refine ev_if (pc1 := 40) (t := 44) (TBof tbs_139 _ rfl) (by decide) rfl (fun c5 => ?_) (fun c5 => ?_)
      · replace H := H.1 c5
        refine ev_iconst (pc1 := 45) (x := 0) (by decide) (TBof tbs_139 _ rfl) rfl ?_
        refine ev_iadd (pc1 := 46) (TBof tbs_139 _ rfl) rfl ?_
        refine ev_istore_n (pc1 := 47) (L1 := [(2, .int (v2 + 0)), (0, .ref 73), (1, .int v1), (3, .int v3)]) (by rw [ml_139]; decide) rfl (TBof tbs_139 _ rfl) rfl ?_
        refine ev_iinc (pc1 := 50) (n := 3) (c := 1) (x := v3) (cc := 1) (L1 := [(3, .int (v3 + 1)), (2, .int (v2 + 0)), (0, .ref 73), (1, .int v1)]) rfl (by rw [ml_139]; decide) (by decide) rfl (TBof tbs_139 _ rfl) rfl ?_
        refine ev_goto (pc1 := 4) (TBof tbs_139 _ rfl) (by decide) ?_
        exact ev_le [2, 3, 1, 0] rfl rfl H
      · replace H := H.2 c5
        refine ev_iconst (pc1 := 41) (x := 1) (by decide) (TBof tbs_139 _ rfl) rfl ?_
        refine ev_goto (pc1 := 45) (TBof tbs_139 _ rfl) (by decide) ?_
        refine ev_iadd (pc1 := 46) (TBof tbs_139 _ rfl) rfl ?_
        refine ev_istore_n (pc1 := 47) (L1 := [(2, .int (v2 + 1)), (0, .ref 73), (1, .int v1), (3, .int v3)]) (by rw [ml_139]; decide) rfl (TBof tbs_139 _ rfl) rfl ?_
        refine ev_iinc (pc1 := 50) (n := 3) (c := 1) (x := v3) (cc := 1) (L1 := [(3, .int (v3 + 1)), (2, .int (v2 + 1)), (0, .ref 73), (1, .int v1)]) rfl (by rw [ml_139]; decide) (by decide) rfl (TBof tbs_139 _ rfl) rfl ?_
        refine ev_goto (pc1 := 4) (TBof tbs_139 _ rfl) (by decide) ?_
        exact ev_le [2, 3, 1, 0] rfl rfl H
set_option maxRecDepth 100000 in
theorem R_X4_outersOf_0 {d : Nat} {v1 : Int32} {M : Im} {h : Hm} {D : Dm} {Q : Int32 → Im → Hm → Dm → Prop} (H : CI d nX4_d [.int v1] M h D (fun x1 M1 h1 D1 => vp_in (x1 + 0) 168 ∧ (EvI d nX4_outersOf 14 [(0, .ref 73), (1, .int v1), (2, .int 0), (3, .int (M1 74 ((x1 + 0).toNatClampNeg)))] [] M1 h1 D1 Q))) : EvI d nX4_outersOf 0 [(0, .ref 73), (1, .int v1)] [] M h D Q := by
  refine ev_iconst (pc1 := 1) (x := 0) (by decide) (TBof tbs_140 _ rfl) rfl ?_
  refine ev_istore_n (pc1 := 2) (L1 := [(2, .int 0), (0, .ref 73), (1, .int v1)]) (by rw [ml_140]; decide) rfl (TBof tbs_140 _ rfl) rfl ?_
  refine ev_aload_n (pc1 := 3) rfl rfl (TBof tbs_140 _ rfl) rfl ?_
  refine ev_getP (pc1 := 6) (ci := 4) (k := 0) (a := 74) (TBof tbs_140 _ rfl) rfl (fldof mo_140 fl_4_7) ltc_73 sh_73 nk_4_0 fp_4_0 (by decide) pf_73_0 ?_
  refine ev_iload_n (pc1 := 7) rfl (TBof tbs_140 _ rfl) rfl ?_
  refine ev_callsI (pc1 := 10) (as := [.int v1]) (r := [.ref 74]) (TBof tbs_140 _ rfl) rfl (lnkof mo_140 ln_4_55) (Or.inl rfl) rfl na_86 (Nat.le_of_ble_eq_true rfl) H (fun x1 M1 h1 D1 H => ?_)
  refine ev_iconst (pc1 := 11) (x := 0) (by decide) (TBof tbs_140 _ rfl) rfl ?_
  refine ev_iadd (pc1 := 12) (TBof tbs_140 _ rfl) rfl ?_
  refine ev_iaload (pc1 := 13) (n := 168) (TBof tbs_140 _ rfl) rfl ltc_74 sh_74 H.1 ?_
  replace H := H.2
  refine ev_istore_n (pc1 := 14) (L1 := [(3, .int (M1 74 ((x1 + 0).toNatClampNeg))), (2, .int 0), (0, .ref 73), (1, .int v1)]) (by rw [ml_140]; decide) rfl (TBof tbs_140 _ rfl) rfl ?_
  exact ev_le [2, 3, 1, 0] rfl rfl H
set_option maxRecDepth 100000 in
theorem R_X4_outersOf_14 {d : Nat} {v1 v2 v3 : Int32} {M : Im} {h : Hm} {D : Dm} {Q : Int32 → Im → Hm → Dm → Prop} (H : ((v3 = (-5)) → (Q v2 M h D)) ∧ (¬ (v3 = (-5)) → (CI d nX4_d [.int v3] M h D (fun x2 M2 h2 D2 => vp_in (x2 + 0) 168 ∧ (EvI d nX4_outersOf 14 [(0, .ref 73), (1, .int v1), (2, .int (v2 + 1)), (3, .int (M2 74 ((x2 + 0).toNatClampNeg)))] [] M2 h2 D2 Q))))) : EvI d nX4_outersOf 14 [(0, .ref 73), (1, .int v1), (2, .int v2), (3, .int v3)] [] M h D Q := by
  refine ev_iload_n (pc1 := 15) rfl (TBof tbs_140 _ rfl) rfl ?_
  refine ev_bipush (pc1 := 17) (x := (-5)) (by decide) (TBof tbs_140 _ rfl) rfl ?_
  refine ev_icmp (pc1 := 20) (t := 38) (TBof tbs_140 _ rfl) (by decide) rfl (fun c1 => ?_) (fun c1 => ?_)
  · replace H := H.1 c1
    refine ev_iload_n (pc1 := 39) rfl (TBof tbs_140 _ rfl) rfl ?_
    exact ev_ireturn (TBof tbs_140 _ rfl) (retI_i rt_140) ⟨_, rfl, H⟩
  · replace H := H.2 c1
    refine ev_iinc (pc1 := 23) (n := 2) (c := 1) (x := v2) (cc := 1) (L1 := [(2, .int (v2 + 1)), (0, .ref 73), (1, .int v1), (3, .int v3)]) rfl (by rw [ml_140]; decide) (by decide) rfl (TBof tbs_140 _ rfl) rfl ?_
    refine ev_aload_n (pc1 := 24) rfl rfl (TBof tbs_140 _ rfl) rfl ?_
    refine ev_getP (pc1 := 27) (ci := 4) (k := 0) (a := 74) (TBof tbs_140 _ rfl) rfl (fldof mo_140 fl_4_7) ltc_73 sh_73 nk_4_0 fp_4_0 (by decide) pf_73_0 ?_
    refine ev_iload_n (pc1 := 28) rfl (TBof tbs_140 _ rfl) rfl ?_
    refine ev_callsI (pc1 := 31) (as := [.int v3]) (r := [.ref 74]) (TBof tbs_140 _ rfl) rfl (lnkof mo_140 ln_4_55) (Or.inl rfl) rfl na_86 (Nat.le_of_ble_eq_true rfl) H (fun x2 M2 h2 D2 H => ?_)
    refine ev_iconst (pc1 := 32) (x := 0) (by decide) (TBof tbs_140 _ rfl) rfl ?_
    refine ev_iadd (pc1 := 33) (TBof tbs_140 _ rfl) rfl ?_
    refine ev_iaload (pc1 := 34) (n := 168) (TBof tbs_140 _ rfl) rfl ltc_74 sh_74 H.1 ?_
    replace H := H.2
    refine ev_istore_n (pc1 := 35) (L1 := [(3, .int (M2 74 ((x2 + 0).toNatClampNeg))), (2, .int (v2 + 1)), (0, .ref 73), (1, .int v1)]) (by rw [ml_140]; decide) rfl (TBof tbs_140 _ rfl) rfl ?_
    refine ev_goto (pc1 := 14) (TBof tbs_140 _ rfl) (by decide) ?_
    exact ev_le [2, 3, 1, 0] rfl rfl H
set_option maxRecDepth 100000 in
theorem R_X4_drawer_0 {d : Nat} {v1 v2 : Int32} {M : Im} {h : Hm} {D : Dm} {Q : Int32 → Im → Hm → Dm → Prop} (H : CI d nX4_isDrawer [.ref 73, .int v1] M h D (fun x1 M1 h1 D1 => ((¬ (x1 = 0)) → (CI d nX4_in [.int v2, .int 0, .int 10] M1 h1 D1 (fun x3 M3 h3 D3 => ((¬ (x3 = 0)) → (((8 ≤ v2) → (((¬ (v2 = 8)) → (((¬ (v2 = 9)) → (CI d nX4_outersOf [.ref 73, .int v1] M3 h3 D3 (fun x8 M8 h8 D8 => Q x8 M8 h8 D8))) ∧ (¬ (¬ (v2 = 9)) → (CI d nX4_thingsIn [.ref 73, .int v1] M3 h3 D3 (fun x9 M9 h9 D9 => Q x9 M9 h9 D9))))) ∧ (¬ (¬ (v2 = 8)) → (CI d nX4_isReached [.ref 73, .int v1] M3 h3 D3 (fun x10 M10 h10 D10 => ((x10 = 0) → (Q 0 M10 h10 D10)) ∧ (¬ (x10 = 0) → (Q 1 M10 h10 D10))))))) ∧ (¬ (8 ≤ v2) → (CI d nX4_d [.int v1] M3 h3 D3 (fun x12 M12 h12 D12 => vp_in (x12 + v2) 168 ∧ (Q (M12 74 ((x12 + v2).toNatClampNeg)) M12 h12 D12)))))) ∧ (¬ (¬ (x3 = 0)) → (Q (-2) M3 h3 D3))))) ∧ (¬ (¬ (x1 = 0)) → (Q (-1) M1 h1 D1)))) : EvI d nX4_drawer 0 [(0, .ref 73), (1, .int v1), (2, .int v2)] [] M h D Q := by
  refine ev_aload_n (pc1 := 1) rfl rfl (TBof tbs_141 _ rfl) rfl ?_
  refine ev_iload_n (pc1 := 2) rfl (TBof tbs_141 _ rfl) rfl ?_
  refine ev_callvI (pc1 := 5) (as := [.int v1]) (r := []) (TBof tbs_141 _ rfl) rfl (lnkof mo_141 ln_4_58) rfl na_88 ltc_73 (sh_73.trans (by rw [mo_88])) (Nat.le_of_ble_eq_true rfl) H (fun x1 M1 h1 D1 H => ?_)
  refine ev_if (pc1 := 8) (t := 10) (TBof tbs_141 _ rfl) (by decide) rfl (fun c2 => ?_) (fun c2 => ?_)
  · replace H := H.1 c2
    refine ev_iload_n (pc1 := 11) rfl (TBof tbs_141 _ rfl) rfl ?_
    refine ev_iconst (pc1 := 12) (x := 0) (by decide) (TBof tbs_141 _ rfl) rfl ?_
    refine ev_bipush (pc1 := 14) (x := 10) (by decide) (TBof tbs_141 _ rfl) rfl ?_
    refine ev_callsI (pc1 := 17) (as := [.int v2, .int 0, .int 10]) (r := []) (TBof tbs_141 _ rfl) rfl (lnkof mo_141 ln_4_51) (Or.inl rfl) rfl na_84 (Nat.le_of_ble_eq_true rfl) H (fun x3 M3 h3 D3 H => ?_)
    refine ev_if (pc1 := 20) (t := 23) (TBof tbs_141 _ rfl) (by decide) rfl (fun c4 => ?_) (fun c4 => ?_)
    · replace H := H.1 c4
      refine ev_iload_n (pc1 := 24) rfl (TBof tbs_141 _ rfl) rfl ?_
      refine ev_bipush (pc1 := 26) (x := 8) (by decide) (TBof tbs_141 _ rfl) rfl ?_
      refine ev_icmp (pc1 := 29) (t := 41) (TBof tbs_141 _ rfl) (by decide) rfl (fun c5 => ?_) (fun c5 => ?_)
      · replace H := H.1 c5
        refine ev_iload_n (pc1 := 42) rfl (TBof tbs_141 _ rfl) rfl ?_
        refine ev_bipush (pc1 := 44) (x := 8) (by decide) (TBof tbs_141 _ rfl) rfl ?_
        refine ev_icmp (pc1 := 47) (t := 63) (TBof tbs_141 _ rfl) (by decide) rfl (fun c6 => ?_) (fun c6 => ?_)
        · replace H := H.1 c6
          refine ev_iload_n (pc1 := 64) rfl (TBof tbs_141 _ rfl) rfl ?_
          refine ev_bipush (pc1 := 66) (x := 9) (by decide) (TBof tbs_141 _ rfl) rfl ?_
          refine ev_icmp (pc1 := 69) (t := 77) (TBof tbs_141 _ rfl) (by decide) rfl (fun c7 => ?_) (fun c7 => ?_)
          · replace H := H.1 c7
            refine ev_aload_n (pc1 := 78) rfl rfl (TBof tbs_141 _ rfl) rfl ?_
            refine ev_iload_n (pc1 := 79) rfl (TBof tbs_141 _ rfl) rfl ?_
            refine ev_callvI (pc1 := 82) (as := [.int v1]) (r := []) (TBof tbs_141 _ rfl) rfl (lnkof mo_141 ln_4_199) rfl na_140 ltc_73 (sh_73.trans (by rw [mo_140])) (Nat.le_of_ble_eq_true rfl) H (fun x8 M8 h8 D8 H => ?_)
            exact ev_ireturn (TBof tbs_141 _ rfl) (retI_i rt_141) ⟨_, rfl, H⟩
          · replace H := H.2 c7
            refine ev_aload_n (pc1 := 70) rfl rfl (TBof tbs_141 _ rfl) rfl ?_
            refine ev_iload_n (pc1 := 71) rfl (TBof tbs_141 _ rfl) rfl ?_
            refine ev_callvI (pc1 := 74) (as := [.int v1]) (r := []) (TBof tbs_141 _ rfl) rfl (lnkof mo_141 ln_4_196) rfl na_139 ltc_73 (sh_73.trans (by rw [mo_139])) (Nat.le_of_ble_eq_true rfl) H (fun x9 M9 h9 D9 H => ?_)
            refine ev_goto (pc1 := 82) (TBof tbs_141 _ rfl) (by decide) ?_
            exact ev_ireturn (TBof tbs_141 _ rfl) (retI_i rt_141) ⟨_, rfl, H⟩
        · replace H := H.2 c6
          refine ev_aload_n (pc1 := 48) rfl rfl (TBof tbs_141 _ rfl) rfl ?_
          refine ev_iload_n (pc1 := 49) rfl (TBof tbs_141 _ rfl) rfl ?_
          refine ev_callvI (pc1 := 52) (as := [.int v1]) (r := []) (TBof tbs_141 _ rfl) rfl (lnkof mo_141 ln_4_108) rfl na_106 ltc_73 (sh_73.trans (by rw [mo_106])) (Nat.le_of_ble_eq_true rfl) H (fun x10 M10 h10 D10 H => ?_)
          refine ev_if (pc1 := 55) (t := 59) (TBof tbs_141 _ rfl) (by decide) rfl (fun c11 => ?_) (fun c11 => ?_)
          · replace H := H.1 c11
            refine ev_iconst (pc1 := 60) (x := 0) (by decide) (TBof tbs_141 _ rfl) rfl ?_
            refine ev_goto (pc1 := 82) (TBof tbs_141 _ rfl) (by decide) ?_
            exact ev_ireturn (TBof tbs_141 _ rfl) (retI_i rt_141) ⟨_, rfl, H⟩
          · replace H := H.2 c11
            refine ev_iconst (pc1 := 56) (x := 1) (by decide) (TBof tbs_141 _ rfl) rfl ?_
            refine ev_goto (pc1 := 82) (TBof tbs_141 _ rfl) (by decide) ?_
            exact ev_ireturn (TBof tbs_141 _ rfl) (retI_i rt_141) ⟨_, rfl, H⟩
      · replace H := H.2 c5
        refine ev_aload_n (pc1 := 30) rfl rfl (TBof tbs_141 _ rfl) rfl ?_
        refine ev_getP (pc1 := 33) (ci := 4) (k := 0) (a := 74) (TBof tbs_141 _ rfl) rfl (fldof mo_141 fl_4_7) ltc_73 sh_73 nk_4_0 fp_4_0 (by decide) pf_73_0 ?_
        refine ev_iload_n (pc1 := 34) rfl (TBof tbs_141 _ rfl) rfl ?_
        refine ev_callsI (pc1 := 37) (as := [.int v1]) (r := [.ref 74]) (TBof tbs_141 _ rfl) rfl (lnkof mo_141 ln_4_55) (Or.inl rfl) rfl na_86 (Nat.le_of_ble_eq_true rfl) H (fun x12 M12 h12 D12 H => ?_)
        refine ev_iload_n (pc1 := 38) rfl (TBof tbs_141 _ rfl) rfl ?_
        refine ev_iadd (pc1 := 39) (TBof tbs_141 _ rfl) rfl ?_
        refine ev_iaload (pc1 := 40) (n := 168) (TBof tbs_141 _ rfl) rfl ltc_74 sh_74 H.1 ?_
        replace H := H.2
        exact ev_ireturn (TBof tbs_141 _ rfl) (retI_i rt_141) ⟨_, rfl, H⟩
    · replace H := H.2 c4
      refine ev_bipush (pc1 := 22) (x := (-2)) (by decide) (TBof tbs_141 _ rfl) rfl ?_
      exact ev_ireturn (TBof tbs_141 _ rfl) (retI_i rt_141) ⟨_, rfl, H⟩
  · replace H := H.2 c2
    refine ev_iconst (pc1 := 9) (x := (-1)) (by decide) (TBof tbs_141 _ rfl) rfl ?_
    exact ev_ireturn (TBof tbs_141 _ rfl) (retI_i rt_141) ⟨_, rfl, H⟩
set_option maxRecDepth 100000 in
theorem R_X4_thing_0 {d : Nat} {v1 v2 : Int32} {M : Im} {h : Hm} {D : Dm} {Q : Int32 → Im → Hm → Dm → Prop} (H : CI d nX4_in [.int v1, .int 0, .int 11] M h D (fun x1 M1 h1 D1 => ((¬ (x1 = 0)) → (CI d nX4_in [.int v2, .int 0, .int 3] M1 h1 D1 (fun x3 M3 h3 D3 => ((¬ (x3 = 0)) → (CI d nX4_t [.int v1] M3 h3 D3 (fun x5 M5 h5 D5 => vp_in (x5 + 2) 168 ∧ (((¬ ((M5 74 ((x5 + 2).toNatClampNeg)) = 1)) → (EvI d nX4_thing 46 [(0, .ref 73), (1, .int v1), (2, .int v2), (3, .int x5)] [.int 0] M5 h5 D5 Q)) ∧ (¬ (¬ ((M5 74 ((x5 + 2).toNatClampNeg)) = 1)) → (EvI d nX4_thing 46 [(0, .ref 73), (1, .int v1), (2, .int v2), (3, .int x5)] [.int 1] M5 h5 D5 Q)))))) ∧ (¬ (¬ (x3 = 0)) → (Q (-2) M3 h3 D3))))) ∧ (¬ (¬ (x1 = 0)) → (Q (-1) M1 h1 D1)))) : EvI d nX4_thing 0 [(0, .ref 73), (1, .int v1), (2, .int v2)] [] M h D Q := by
  refine ev_iload_n (pc1 := 1) rfl (TBof tbs_142 _ rfl) rfl ?_
  refine ev_iconst (pc1 := 2) (x := 0) (by decide) (TBof tbs_142 _ rfl) rfl ?_
  refine ev_bipush (pc1 := 4) (x := 11) (by decide) (TBof tbs_142 _ rfl) rfl ?_
  refine ev_callsI (pc1 := 7) (as := [.int v1, .int 0, .int 11]) (r := []) (TBof tbs_142 _ rfl) rfl (lnkof mo_142 ln_4_51) (Or.inl rfl) rfl na_84 (Nat.le_of_ble_eq_true rfl) H (fun x1 M1 h1 D1 H => ?_)
  refine ev_if (pc1 := 10) (t := 12) (TBof tbs_142 _ rfl) (by decide) rfl (fun c2 => ?_) (fun c2 => ?_)
  · replace H := H.1 c2
    refine ev_iload_n (pc1 := 13) rfl (TBof tbs_142 _ rfl) rfl ?_
    refine ev_iconst (pc1 := 14) (x := 0) (by decide) (TBof tbs_142 _ rfl) rfl ?_
    refine ev_iconst (pc1 := 15) (x := 3) (by decide) (TBof tbs_142 _ rfl) rfl ?_
    refine ev_callsI (pc1 := 18) (as := [.int v2, .int 0, .int 3]) (r := []) (TBof tbs_142 _ rfl) rfl (lnkof mo_142 ln_4_51) (Or.inl rfl) rfl na_84 (Nat.le_of_ble_eq_true rfl) H (fun x3 M3 h3 D3 H => ?_)
    refine ev_if (pc1 := 21) (t := 24) (TBof tbs_142 _ rfl) (by decide) rfl (fun c4 => ?_) (fun c4 => ?_)
    · replace H := H.1 c4
      refine ev_iload_n (pc1 := 25) rfl (TBof tbs_142 _ rfl) rfl ?_
      refine ev_callsI (pc1 := 28) (as := [.int v1]) (r := []) (TBof tbs_142 _ rfl) rfl (lnkof mo_142 ln_4_43) (Or.inl rfl) rfl na_85 (Nat.le_of_ble_eq_true rfl) H (fun x5 M5 h5 D5 H => ?_)
      refine ev_istore_n (pc1 := 29) (L1 := [(3, .int x5), (0, .ref 73), (1, .int v1), (2, .int v2)]) (by rw [ml_142]; decide) rfl (TBof tbs_142 _ rfl) rfl ?_
      refine ev_aload_n (pc1 := 30) rfl rfl (TBof tbs_142 _ rfl) rfl ?_
      refine ev_getP (pc1 := 33) (ci := 4) (k := 0) (a := 74) (TBof tbs_142 _ rfl) rfl (fldof mo_142 fl_4_7) ltc_73 sh_73 nk_4_0 fp_4_0 (by decide) pf_73_0 ?_
      refine ev_iload_n (pc1 := 34) rfl (TBof tbs_142 _ rfl) rfl ?_
      refine ev_iconst (pc1 := 35) (x := 2) (by decide) (TBof tbs_142 _ rfl) rfl ?_
      refine ev_iadd (pc1 := 36) (TBof tbs_142 _ rfl) rfl ?_
      refine ev_iaload (pc1 := 37) (n := 168) (TBof tbs_142 _ rfl) rfl ltc_74 sh_74 H.1 ?_
      replace H := H.2
      refine ev_iconst (pc1 := 38) (x := 1) (by decide) (TBof tbs_142 _ rfl) rfl ?_
      refine ev_icmp (pc1 := 41) (t := 45) (TBof tbs_142 _ rfl) (by decide) rfl (fun c6 => ?_) (fun c6 => ?_)
      · replace H := H.1 c6
        refine ev_iconst (pc1 := 46) (x := 0) (by decide) (TBof tbs_142 _ rfl) rfl ?_
        exact ev_le [1, 2, 3, 0] rfl rfl H
      · replace H := H.2 c6
        refine ev_iconst (pc1 := 42) (x := 1) (by decide) (TBof tbs_142 _ rfl) rfl ?_
        refine ev_goto (pc1 := 46) (TBof tbs_142 _ rfl) (by decide) ?_
        exact ev_le [1, 2, 3, 0] rfl rfl H
    · replace H := H.2 c4
      refine ev_bipush (pc1 := 23) (x := (-2)) (by decide) (TBof tbs_142 _ rfl) rfl ?_
      exact ev_ireturn (TBof tbs_142 _ rfl) (retI_i rt_142) ⟨_, rfl, H⟩
  · replace H := H.2 c2
    refine ev_iconst (pc1 := 11) (x := (-1)) (by decide) (TBof tbs_142 _ rfl) rfl ?_
    exact ev_ireturn (TBof tbs_142 _ rfl) (retI_i rt_142) ⟨_, rfl, H⟩
set_option maxRecDepth 100000 in
theorem R_X4_thing_46 {d : Nat} {v1 v2 v3 s0 : Int32} {M : Im} {h : Hm} {D : Dm} {Q : Int32 → Im → Hm → Dm → Prop} (H : ((2 ≤ v2) → (((¬ (v2 = 2)) → (CI d nX4_isGame [.ref 73] M h D (fun x3 M3 h3 D3 => ((x3 = 0) → (Q 0 M3 h3 D3)) ∧ (¬ (x3 = 0) → (CI d nX4_canTake [.ref 73, .int v1] M3 h3 D3 (fun x5 M5 h5 D5 => ((x5 = 0) → (Q 0 M5 h5 D5)) ∧ (¬ (x5 = 0) → (Q 1 M5 h5 D5)))))))) ∧ (¬ (¬ (v2 = 2)) → (vp_in (v3 + 2) 168 ∧ (Q (M 74 ((v3 + 2).toNatClampNeg)) M h D))))) ∧ (¬ (2 ≤ v2) → (((s0 = 0) → (vp_in (v3 + v2) 168 ∧ (Q (M 74 ((v3 + v2).toNatClampNeg)) M h D))) ∧ (¬ (s0 = 0) → (((¬ (v2 = 0)) → (Q 0 M h D)) ∧ (¬ (¬ (v2 = 0)) → (Q (-5) M h D))))))) : EvI d nX4_thing 46 [(0, .ref 73), (1, .int v1), (2, .int v2), (3, .int v3)] [.int s0] M h D Q := by
  refine ev_istore (pc1 := 48) (L1 := [(4, .int s0), (0, .ref 73), (1, .int v1), (2, .int v2), (3, .int v3)]) (by rw [ml_142]; decide) rfl (TBof tbs_142 _ rfl) rfl ?_
  refine ev_iload_n (pc1 := 49) rfl (TBof tbs_142 _ rfl) rfl ?_
  refine ev_iconst (pc1 := 50) (x := 2) (by decide) (TBof tbs_142 _ rfl) rfl ?_
  refine ev_icmp (pc1 := 53) (t := 80) (TBof tbs_142 _ rfl) (by decide) rfl (fun c1 => ?_) (fun c1 => ?_)
  · replace H := H.1 c1
    refine ev_iload_n (pc1 := 81) rfl (TBof tbs_142 _ rfl) rfl ?_
    refine ev_iconst (pc1 := 82) (x := 2) (by decide) (TBof tbs_142 _ rfl) rfl ?_
    refine ev_icmp (pc1 := 85) (t := 96) (TBof tbs_142 _ rfl) (by decide) rfl (fun c2 => ?_) (fun c2 => ?_)
    · replace H := H.1 c2
      refine ev_aload_n (pc1 := 97) rfl rfl (TBof tbs_142 _ rfl) rfl ?_
      refine ev_callvI (pc1 := 100) (as := []) (r := []) (TBof tbs_142 _ rfl) rfl (lnkof mo_142 ln_4_62) rfl na_89 ltc_73 (sh_73.trans (by rw [mo_89])) (Nat.le_of_ble_eq_true rfl) H (fun x3 M3 h3 D3 H => ?_)
      refine ev_if (pc1 := 103) (t := 115) (TBof tbs_142 _ rfl) (by decide) rfl (fun c4 => ?_) (fun c4 => ?_)
      · replace H := H.1 c4
        refine ev_iconst (pc1 := 116) (x := 0) (by decide) (TBof tbs_142 _ rfl) rfl ?_
        exact ev_ireturn (TBof tbs_142 _ rfl) (retI_i rt_142) ⟨_, rfl, H⟩
      · replace H := H.2 c4
        refine ev_aload_n (pc1 := 104) rfl rfl (TBof tbs_142 _ rfl) rfl ?_
        refine ev_iload_n (pc1 := 105) rfl (TBof tbs_142 _ rfl) rfl ?_
        refine ev_callvI (pc1 := 108) (as := [.int v1]) (r := []) (TBof tbs_142 _ rfl) rfl (lnkof mo_142 ln_4_132) rfl na_109 ltc_73 (sh_73.trans (by rw [mo_109])) (Nat.le_of_ble_eq_true rfl) H (fun x5 M5 h5 D5 H => ?_)
        refine ev_if (pc1 := 111) (t := 115) (TBof tbs_142 _ rfl) (by decide) rfl (fun c6 => ?_) (fun c6 => ?_)
        · replace H := H.1 c6
          refine ev_iconst (pc1 := 116) (x := 0) (by decide) (TBof tbs_142 _ rfl) rfl ?_
          exact ev_ireturn (TBof tbs_142 _ rfl) (retI_i rt_142) ⟨_, rfl, H⟩
        · replace H := H.2 c6
          refine ev_iconst (pc1 := 112) (x := 1) (by decide) (TBof tbs_142 _ rfl) rfl ?_
          refine ev_goto (pc1 := 116) (TBof tbs_142 _ rfl) (by decide) ?_
          exact ev_ireturn (TBof tbs_142 _ rfl) (retI_i rt_142) ⟨_, rfl, H⟩
    · replace H := H.2 c2
      refine ev_aload_n (pc1 := 86) rfl rfl (TBof tbs_142 _ rfl) rfl ?_
      refine ev_getP (pc1 := 89) (ci := 4) (k := 0) (a := 74) (TBof tbs_142 _ rfl) rfl (fldof mo_142 fl_4_7) ltc_73 sh_73 nk_4_0 fp_4_0 (by decide) pf_73_0 ?_
      refine ev_iload_n (pc1 := 90) rfl (TBof tbs_142 _ rfl) rfl ?_
      refine ev_iconst (pc1 := 91) (x := 2) (by decide) (TBof tbs_142 _ rfl) rfl ?_
      refine ev_iadd (pc1 := 92) (TBof tbs_142 _ rfl) rfl ?_
      refine ev_iaload (pc1 := 93) (n := 168) (TBof tbs_142 _ rfl) rfl ltc_74 sh_74 H.1 ?_
      replace H := H.2
      refine ev_goto (pc1 := 116) (TBof tbs_142 _ rfl) (by decide) ?_
      exact ev_ireturn (TBof tbs_142 _ rfl) (retI_i rt_142) ⟨_, rfl, H⟩
  · replace H := H.2 c1
    refine ev_iload (pc1 := 55) rfl (TBof tbs_142 _ rfl) rfl ?_
    refine ev_if (pc1 := 58) (t := 71) (TBof tbs_142 _ rfl) (by decide) rfl (fun c7 => ?_) (fun c7 => ?_)
    · replace H := H.1 c7
      refine ev_aload_n (pc1 := 72) rfl rfl (TBof tbs_142 _ rfl) rfl ?_
      refine ev_getP (pc1 := 75) (ci := 4) (k := 0) (a := 74) (TBof tbs_142 _ rfl) rfl (fldof mo_142 fl_4_7) ltc_73 sh_73 nk_4_0 fp_4_0 (by decide) pf_73_0 ?_
      refine ev_iload_n (pc1 := 76) rfl (TBof tbs_142 _ rfl) rfl ?_
      refine ev_iload_n (pc1 := 77) rfl (TBof tbs_142 _ rfl) rfl ?_
      refine ev_iadd (pc1 := 78) (TBof tbs_142 _ rfl) rfl ?_
      refine ev_iaload (pc1 := 79) (n := 168) (TBof tbs_142 _ rfl) rfl ltc_74 sh_74 H.1 ?_
      replace H := H.2
      exact ev_ireturn (TBof tbs_142 _ rfl) (retI_i rt_142) ⟨_, rfl, H⟩
    · replace H := H.2 c7
      refine ev_iload_n (pc1 := 59) rfl (TBof tbs_142 _ rfl) rfl ?_
      refine ev_if (pc1 := 62) (t := 67) (TBof tbs_142 _ rfl) (by decide) rfl (fun c8 => ?_) (fun c8 => ?_)
      · replace H := H.1 c8
        refine ev_iconst (pc1 := 68) (x := 0) (by decide) (TBof tbs_142 _ rfl) rfl ?_
        refine ev_goto (pc1 := 79) (TBof tbs_142 _ rfl) (by decide) ?_
        exact ev_ireturn (TBof tbs_142 _ rfl) (retI_i rt_142) ⟨_, rfl, H⟩
      · replace H := H.2 c8
        refine ev_bipush (pc1 := 64) (x := (-5)) (by decide) (TBof tbs_142 _ rfl) rfl ?_
        refine ev_goto (pc1 := 79) (TBof tbs_142 _ rfl) (by decide) ?_
        exact ev_ireturn (TBof tbs_142 _ rfl) (retI_i rt_142) ⟨_, rfl, H⟩
set_option maxRecDepth 100000 in
theorem R_X4_minutes_0 {d : Nat} {M : Im} {h : Hm} {D : Dm} {Q : UInt64 → Im → Hm → Dm → Prop} (H : CI d nX4_isGame [.ref 73] M h D (fun x1 M1 h1 D1 => ((x1 = 0) → (Q 13830554455654793216 M1 h1 D1)) ∧ (¬ (x1 = 0) → (vp_in 0 6 ∧ (Q (D1 77 ((0 : Int32).toNatClampNeg)) M1 h1 D1))))) : EvD d nX4_minutes 0 [(0, .ref 73)] [] M h D Q := by
  refine ev_aload_n (pc1 := 1) rfl rfl (TBof tbs_143 _ rfl) rfl ?_
  refine ev_callvI (pc1 := 4) (as := []) (r := []) (TBof tbs_143 _ rfl) rfl (lnkof mo_143 ln_4_62) rfl na_89 ltc_73 (sh_73.trans (by rw [mo_89])) (Nat.le_of_ble_eq_true rfl) H (fun x1 M1 h1 D1 H => ?_)
  refine ev_if (pc1 := 7) (t := 16) (TBof tbs_143 _ rfl) (by decide) rfl (fun c2 => ?_) (fun c2 => ?_)
  · replace H := H.1 c2
    refine ev_ldc2_w (pc1 := 19) (x := 13830554455654793216) rfl (TBof tbs_143 _ rfl) rfl ?_
    exact ev_dreturn (TBof tbs_143 _ rfl) rt_143 ⟨_, rfl, H⟩
  · replace H := H.2 c2
    refine ev_aload_n (pc1 := 8) rfl rfl (TBof tbs_143 _ rfl) rfl ?_
    refine ev_getP (pc1 := 11) (ci := 4) (k := 3) (a := 77) (TBof tbs_143 _ rfl) rfl (fldof mo_143 fl_4_19) ltc_73 sh_73 nk_4_3 fp_4_3 (by decide) pf_73_3 ?_
    refine ev_iconst (pc1 := 12) (x := 0) (by decide) (TBof tbs_143 _ rfl) rfl ?_
    refine ev_daload (pc1 := 13) (n := 6) (TBof tbs_143 _ rfl) rfl ltc_77 sh_77 H.1 ?_
    replace H := H.2
    refine ev_goto (pc1 := 19) (TBof tbs_143 _ rfl) (by decide) ?_
    exact ev_dreturn (TBof tbs_143 _ rfl) rt_143 ⟨_, rfl, H⟩
set_option maxRecDepth 100000 in
theorem R_X4_minutesBits_0 {d : Nat} {M : Im} {h : Hm} {D : Dm} {Q : Int32 → Im → Hm → Dm → Prop} (H : CI d nX4_isGame [.ref 73] M h D (fun x1 M1 h1 D1 => ((x1 = 0) → (Q 0 M1 h1 D1)) ∧ (¬ (x1 = 0) → (vp_in 0 6 ∧ (vf_n32 (FP.d2f (D1 77 ((0 : Int32).toNatClampNeg))) ∧ (CI d nJxf58ca_floatToIntBits_5c35a [.float (FP.d2f (D1 77 ((0 : Int32).toNatClampNeg)))] M1 h1 D1 (fun x3 M3 h3 D3 => Q x3 M3 h3 D3))))))) : EvI d nX4_minutesBits 0 [(0, .ref 73)] [] M h D Q := by
  refine ev_aload_n (pc1 := 1) rfl rfl (TBof tbs_144 _ rfl) rfl ?_
  refine ev_callvI (pc1 := 4) (as := []) (r := []) (TBof tbs_144 _ rfl) rfl (lnkof mo_144 ln_4_62) rfl na_89 ltc_73 (sh_73.trans (by rw [mo_89])) (Nat.le_of_ble_eq_true rfl) H (fun x1 M1 h1 D1 H => ?_)
  refine ev_if (pc1 := 7) (t := 20) (TBof tbs_144 _ rfl) (by decide) rfl (fun c2 => ?_) (fun c2 => ?_)
  · replace H := H.1 c2
    refine ev_iconst (pc1 := 21) (x := 0) (by decide) (TBof tbs_144 _ rfl) rfl ?_
    exact ev_ireturn (TBof tbs_144 _ rfl) (retI_i rt_144) ⟨_, rfl, H⟩
  · replace H := H.2 c2
    refine ev_aload_n (pc1 := 8) rfl rfl (TBof tbs_144 _ rfl) rfl ?_
    refine ev_getP (pc1 := 11) (ci := 4) (k := 3) (a := 77) (TBof tbs_144 _ rfl) rfl (fldof mo_144 fl_4_19) ltc_73 sh_73 nk_4_3 fp_4_3 (by decide) pf_73_3 ?_
    refine ev_iconst (pc1 := 12) (x := 0) (by decide) (TBof tbs_144 _ rfl) rfl ?_
    refine ev_daload (pc1 := 13) (n := 6) (TBof tbs_144 _ rfl) rfl ltc_77 sh_77 H.1 ?_
    replace H := H.2
    refine ev_d2f (pc1 := 14) H.1 (TBof tbs_144 _ rfl) rfl ?_
    replace H := H.2
    refine ev_callsI (pc1 := 17) (as := [.float (FP.d2f (D1 77 ((0 : Int32).toNatClampNeg)))]) (r := []) (TBof tbs_144 _ rfl) rfl (lnkof mo_144 ln_4_204) (Or.inl rfl) rfl na_150 (Nat.le_of_ble_eq_true rfl) H (fun x3 M3 h3 D3 H => ?_)
    refine ev_goto (pc1 := 21) (TBof tbs_144 _ rfl) (by decide) ?_
    exact ev_ireturn (TBof tbs_144 _ rfl) (retI_i rt_144) ⟨_, rfl, H⟩
set_option maxRecDepth 100000 in
theorem R_X4_handSet_0 {d : Nat} {M : Im} {h : Hm} {D : Dm} {Q : Int32 → Im → Hm → Dm → Prop} (H : EvI d nX4_handSet 4 [(0, .ref 73), (1, .int 0), (2, .int 0)] [] M h D Q) : EvI d nX4_handSet 0 [(0, .ref 73)] [] M h D Q := by
  refine ev_iconst (pc1 := 1) (x := 0) (by decide) (TBof tbs_145 _ rfl) rfl ?_
  refine ev_istore_n (pc1 := 2) (L1 := [(1, .int 0), (0, .ref 73)]) (by rw [ml_145]; decide) rfl (TBof tbs_145 _ rfl) rfl ?_
  refine ev_iconst (pc1 := 3) (x := 0) (by decide) (TBof tbs_145 _ rfl) rfl ?_
  refine ev_istore_n (pc1 := 4) (L1 := [(2, .int 0), (1, .int 0), (0, .ref 73)]) (by rw [ml_145]; decide) rfl (TBof tbs_145 _ rfl) rfl ?_
  exact ev_le [2, 1, 0] rfl rfl H
set_option maxRecDepth 100000 in
theorem R_X4_handSet_4 {d : Nat} {v1 v2 : Int32} {M : Im} {h : Hm} {D : Dm} {Q : Int32 → Im → Hm → Dm → Prop} (H : ((12 ≤ v2) → (Q v1 M h D)) ∧ (¬ (12 ≤ v2) → (CI d nX4_t [.int v2] M h D (fun x2 M2 h2 D2 => vp_in (x2 + 2) 168 ∧ (EvI d nX4_handSet 4 [(0, .ref 73), (1, .int (v1 ||| ((M2 74 ((x2 + 2).toNatClampNeg)) <<< (v2 &&& 31)))), (2, .int (v2 + 1))] [] M2 h2 D2 Q))))) : EvI d nX4_handSet 4 [(0, .ref 73), (1, .int v1), (2, .int v2)] [] M h D Q := by
  refine ev_iload_n (pc1 := 5) rfl (TBof tbs_145 _ rfl) rfl ?_
  refine ev_bipush (pc1 := 7) (x := 12) (by decide) (TBof tbs_145 _ rfl) rfl ?_
  refine ev_icmp (pc1 := 10) (t := 32) (TBof tbs_145 _ rfl) (by decide) rfl (fun c1 => ?_) (fun c1 => ?_)
  · replace H := H.1 c1
    refine ev_iload_n (pc1 := 33) rfl (TBof tbs_145 _ rfl) rfl ?_
    exact ev_ireturn (TBof tbs_145 _ rfl) (retI_i rt_145) ⟨_, rfl, H⟩
  · replace H := H.2 c1
    refine ev_iload_n (pc1 := 11) rfl (TBof tbs_145 _ rfl) rfl ?_
    refine ev_aload_n (pc1 := 12) rfl rfl (TBof tbs_145 _ rfl) rfl ?_
    refine ev_getP (pc1 := 15) (ci := 4) (k := 0) (a := 74) (TBof tbs_145 _ rfl) rfl (fldof mo_145 fl_4_7) ltc_73 sh_73 nk_4_0 fp_4_0 (by decide) pf_73_0 ?_
    refine ev_iload_n (pc1 := 16) rfl (TBof tbs_145 _ rfl) rfl ?_
    refine ev_callsI (pc1 := 19) (as := [.int v2]) (r := [.ref 74, .int v1]) (TBof tbs_145 _ rfl) rfl (lnkof mo_145 ln_4_43) (Or.inl rfl) rfl na_85 (Nat.le_of_ble_eq_true rfl) H (fun x2 M2 h2 D2 H => ?_)
    refine ev_iconst (pc1 := 20) (x := 2) (by decide) (TBof tbs_145 _ rfl) rfl ?_
    refine ev_iadd (pc1 := 21) (TBof tbs_145 _ rfl) rfl ?_
    refine ev_iaload (pc1 := 22) (n := 168) (TBof tbs_145 _ rfl) rfl ltc_74 sh_74 H.1 ?_
    replace H := H.2
    refine ev_iload_n (pc1 := 23) rfl (TBof tbs_145 _ rfl) rfl ?_
    refine ev_ishl (pc1 := 24) (TBof tbs_145 _ rfl) rfl ?_
    refine ev_ior (pc1 := 25) (TBof tbs_145 _ rfl) rfl ?_
    refine ev_istore_n (pc1 := 26) (L1 := [(1, .int (v1 ||| ((M2 74 ((x2 + 2).toNatClampNeg)) <<< (v2 &&& 31)))), (0, .ref 73), (2, .int v2)]) (by rw [ml_145]; decide) rfl (TBof tbs_145 _ rfl) rfl ?_
    refine ev_iinc (pc1 := 29) (n := 2) (c := 1) (x := v2) (cc := 1) (L1 := [(2, .int (v2 + 1)), (1, .int (v1 ||| ((M2 74 ((x2 + 2).toNatClampNeg)) <<< (v2 &&& 31)))), (0, .ref 73)]) rfl (by rw [ml_145]; decide) (by decide) rfl (TBof tbs_145 _ rfl) rfl ?_
    refine ev_goto (pc1 := 4) (TBof tbs_145 _ rfl) (by decide) ?_
    exact ev_le [2, 1, 0] rfl rfl H
set_option maxRecDepth 100000 in
theorem R_X4_stuckSet_0 {d : Nat} {M : Im} {h : Hm} {D : Dm} {Q : Int32 → Im → Hm → Dm → Prop} (H : CV d nX4_reckon [.ref 73, .int 0] M h D (fun M1 h1 D1 => EvI d nX4_stuckSet 9 [(0, .ref 73), (1, .int 0), (2, .int 0)] [] M1 h1 D1 Q)) : EvI d nX4_stuckSet 0 [(0, .ref 73)] [] M h D Q := by
  refine ev_aload_n (pc1 := 1) rfl rfl (TBof tbs_146 _ rfl) rfl ?_
  refine ev_iconst (pc1 := 2) (x := 0) (by decide) (TBof tbs_146 _ rfl) rfl ?_
  refine ev_callvV (pc1 := 5) (as := [.int 0]) (r := []) (TBof tbs_146 _ rfl) rfl (lnkof mo_146 ln_4_179) rfl na_131 ltc_73 (sh_73.trans (by rw [mo_131])) (Nat.le_of_ble_eq_true rfl) H (fun M1 h1 D1 H => ?_)
  refine ev_iconst (pc1 := 6) (x := 0) (by decide) (TBof tbs_146 _ rfl) rfl ?_
  refine ev_istore_n (pc1 := 7) (L1 := [(1, .int 0), (0, .ref 73)]) (by rw [ml_146]; decide) rfl (TBof tbs_146 _ rfl) rfl ?_
  refine ev_iconst (pc1 := 8) (x := 0) (by decide) (TBof tbs_146 _ rfl) rfl ?_
  refine ev_istore_n (pc1 := 9) (L1 := [(2, .int 0), (1, .int 0), (0, .ref 73)]) (by rw [ml_146]; decide) rfl (TBof tbs_146 _ rfl) rfl ?_
  exact ev_le [2, 1, 0] rfl rfl H
set_option maxRecDepth 100000 in
theorem R_X4_stuckSet_9 {d : Nat} {v1 v2 : Int32} {M : Im} {h : Hm} {D : Dm} {Q : Int32 → Im → Hm → Dm → Prop} (H : vp_in 0 168 ∧ ((((M 74 ((0 : Int32).toNatClampNeg)) ≤ v2) → (Q v1 M h D)) ∧ (¬ ((M 74 ((0 : Int32).toNatClampNeg)) ≤ v2) → (vp_in v2 76 ∧ ((((M 80 (v2.toNatClampNeg)) = 0) → (EvI d nX4_stuckSet 9 [(0, .ref 73), (1, .int (v1 ||| (1 <<< (v2 &&& 31)))), (2, .int (v2 + 1))] [] M h D Q)) ∧ (¬ ((M 80 (v2.toNatClampNeg)) = 0) → (EvI d nX4_stuckSet 9 [(0, .ref 73), (1, .int (v1 ||| 0)), (2, .int (v2 + 1))] [] M h D Q))))))) : EvI d nX4_stuckSet 9 [(0, .ref 73), (1, .int v1), (2, .int v2)] [] M h D Q := by
  refine ev_iload_n (pc1 := 10) rfl (TBof tbs_146 _ rfl) rfl ?_
  refine ev_aload_n (pc1 := 11) rfl rfl (TBof tbs_146 _ rfl) rfl ?_
  refine ev_getP (pc1 := 14) (ci := 4) (k := 0) (a := 74) (TBof tbs_146 _ rfl) rfl (fldof mo_146 fl_4_7) ltc_73 sh_73 nk_4_0 fp_4_0 (by decide) pf_73_0 ?_
  refine ev_iconst (pc1 := 15) (x := 0) (by decide) (TBof tbs_146 _ rfl) rfl ?_
  refine ev_iaload (pc1 := 16) (n := 168) (TBof tbs_146 _ rfl) rfl ltc_74 sh_74 H.1 ?_
  replace H := H.2
  refine ev_icmp (pc1 := 19) (t := 44) (TBof tbs_146 _ rfl) (by decide) rfl (fun c1 => ?_) (fun c1 => ?_)
  · replace H := H.1 c1
    refine ev_iload_n (pc1 := 45) rfl (TBof tbs_146 _ rfl) rfl ?_
    exact ev_ireturn (TBof tbs_146 _ rfl) (retI_i rt_146) ⟨_, rfl, H⟩
  · replace H := H.2 c1
    refine ev_iload_n (pc1 := 20) rfl (TBof tbs_146 _ rfl) rfl ?_
    refine ev_aload_n (pc1 := 21) rfl rfl (TBof tbs_146 _ rfl) rfl ?_
    refine ev_getP (pc1 := 24) (ci := 4) (k := 6) (a := 80) (TBof tbs_146 _ rfl) rfl (fldof mo_146 fl_4_30) ltc_73 sh_73 nk_4_6 fp_4_6 (by decide) pf_73_6 ?_
    refine ev_iload_n (pc1 := 25) rfl (TBof tbs_146 _ rfl) rfl ?_
    refine ev_baload (pc1 := 26) (n := 76) (TBof tbs_146 _ rfl) rfl ltc_80 sh_80 H.1 ?_
    replace H := H.2
    refine ev_if (pc1 := 29) (t := 33) (TBof tbs_146 _ rfl) (by decide) rfl (fun c2 => ?_) (fun c2 => ?_)
    · replace H := H.1 c2
      refine ev_iconst (pc1 := 34) (x := 1) (by decide) (TBof tbs_146 _ rfl) rfl ?_
      refine ev_iload_n (pc1 := 35) rfl (TBof tbs_146 _ rfl) rfl ?_
      refine ev_ishl (pc1 := 36) (TBof tbs_146 _ rfl) rfl ?_
      refine ev_ior (pc1 := 37) (TBof tbs_146 _ rfl) rfl ?_
      refine ev_istore_n (pc1 := 38) (L1 := [(1, .int (v1 ||| (1 <<< (v2 &&& 31)))), (0, .ref 73), (2, .int v2)]) (by rw [ml_146]; decide) rfl (TBof tbs_146 _ rfl) rfl ?_
      refine ev_iinc (pc1 := 41) (n := 2) (c := 1) (x := v2) (cc := 1) (L1 := [(2, .int (v2 + 1)), (1, .int (v1 ||| (1 <<< (v2 &&& 31)))), (0, .ref 73)]) rfl (by rw [ml_146]; decide) (by decide) rfl (TBof tbs_146 _ rfl) rfl ?_
      refine ev_goto (pc1 := 9) (TBof tbs_146 _ rfl) (by decide) ?_
      exact ev_le [2, 1, 0] rfl rfl H
    · replace H := H.2 c2
      refine ev_iconst (pc1 := 30) (x := 0) (by decide) (TBof tbs_146 _ rfl) rfl ?_
      refine ev_goto (pc1 := 36) (TBof tbs_146 _ rfl) (by decide) ?_
      refine ev_ior (pc1 := 37) (TBof tbs_146 _ rfl) rfl ?_
      refine ev_istore_n (pc1 := 38) (L1 := [(1, .int (v1 ||| 0)), (0, .ref 73), (2, .int v2)]) (by rw [ml_146]; decide) rfl (TBof tbs_146 _ rfl) rfl ?_
      refine ev_iinc (pc1 := 41) (n := 2) (c := 1) (x := v2) (cc := 1) (L1 := [(2, .int (v2 + 1)), (1, .int (v1 ||| 0)), (0, .ref 73)]) rfl (by rw [ml_146]; decide) (by decide) rfl (TBof tbs_146 _ rfl) rfl ?_
      refine ev_goto (pc1 := 9) (TBof tbs_146 _ rfl) (by decide) ?_
      exact ev_le [2, 1, 0] rfl rfl H
set_option maxRecDepth 100000 in
theorem R_X4_openableSet_0 {d : Nat} {M : Im} {h : Hm} {D : Dm} {Q : Int32 → Im → Hm → Dm → Prop} (H : EvI d nX4_openableSet 4 [(0, .ref 73), (1, .int 0), (2, .int 0)] [] M h D Q) : EvI d nX4_openableSet 0 [(0, .ref 73)] [] M h D Q := by
  refine ev_iconst (pc1 := 1) (x := 0) (by decide) (TBof tbs_147 _ rfl) rfl ?_
  refine ev_istore_n (pc1 := 2) (L1 := [(1, .int 0), (0, .ref 73)]) (by rw [ml_147]; decide) rfl (TBof tbs_147 _ rfl) rfl ?_
  refine ev_iconst (pc1 := 3) (x := 0) (by decide) (TBof tbs_147 _ rfl) rfl ?_
  refine ev_istore_n (pc1 := 4) (L1 := [(2, .int 0), (1, .int 0), (0, .ref 73)]) (by rw [ml_147]; decide) rfl (TBof tbs_147 _ rfl) rfl ?_
  exact ev_le [2, 1, 0] rfl rfl H
set_option maxRecDepth 100000 in
theorem R_X4_openableSet_4 {d : Nat} {v1 v2 : Int32} {M : Im} {h : Hm} {D : Dm} {Q : Int32 → Im → Hm → Dm → Prop} (H : vp_in 0 168 ∧ ((((M 74 ((0 : Int32).toNatClampNeg)) ≤ v2) → (Q v1 M h D)) ∧ (¬ ((M 74 ((0 : Int32).toNatClampNeg)) ≤ v2) → (CI d nX4_canOpen [.ref 73, .int v2] M h D (fun x2 M2 h2 D2 => ((x2 = 0) → (EvI d nX4_openableSet 4 [(0, .ref 73), (1, .int (v1 ||| 0)), (2, .int (v2 + 1))] [] M2 h2 D2 Q)) ∧ (¬ (x2 = 0) → (EvI d nX4_openableSet 4 [(0, .ref 73), (1, .int (v1 ||| (1 <<< (v2 &&& 31)))), (2, .int (v2 + 1))] [] M2 h2 D2 Q))))))) : EvI d nX4_openableSet 4 [(0, .ref 73), (1, .int v1), (2, .int v2)] [] M h D Q := by
  refine ev_iload_n (pc1 := 5) rfl (TBof tbs_147 _ rfl) rfl ?_
  refine ev_aload_n (pc1 := 6) rfl rfl (TBof tbs_147 _ rfl) rfl ?_
  refine ev_getP (pc1 := 9) (ci := 4) (k := 0) (a := 74) (TBof tbs_147 _ rfl) rfl (fldof mo_147 fl_4_7) ltc_73 sh_73 nk_4_0 fp_4_0 (by decide) pf_73_0 ?_
  refine ev_iconst (pc1 := 10) (x := 0) (by decide) (TBof tbs_147 _ rfl) rfl ?_
  refine ev_iaload (pc1 := 11) (n := 168) (TBof tbs_147 _ rfl) rfl ltc_74 sh_74 H.1 ?_
  replace H := H.2
  refine ev_icmp (pc1 := 14) (t := 38) (TBof tbs_147 _ rfl) (by decide) rfl (fun c1 => ?_) (fun c1 => ?_)
  · replace H := H.1 c1
    refine ev_iload_n (pc1 := 39) rfl (TBof tbs_147 _ rfl) rfl ?_
    exact ev_ireturn (TBof tbs_147 _ rfl) (retI_i rt_147) ⟨_, rfl, H⟩
  · replace H := H.2 c1
    refine ev_iload_n (pc1 := 15) rfl (TBof tbs_147 _ rfl) rfl ?_
    refine ev_aload_n (pc1 := 16) rfl rfl (TBof tbs_147 _ rfl) rfl ?_
    refine ev_iload_n (pc1 := 17) rfl (TBof tbs_147 _ rfl) rfl ?_
    refine ev_callvI (pc1 := 20) (as := [.int v2]) (r := [.int v1]) (TBof tbs_147 _ rfl) rfl (lnkof mo_147 ln_4_113) rfl na_107 ltc_73 (sh_73.trans (by rw [mo_107])) (Nat.le_of_ble_eq_true rfl) H (fun x2 M2 h2 D2 H => ?_)
    refine ev_if (pc1 := 23) (t := 29) (TBof tbs_147 _ rfl) (by decide) rfl (fun c3 => ?_) (fun c3 => ?_)
    · replace H := H.1 c3
      refine ev_iconst (pc1 := 30) (x := 0) (by decide) (TBof tbs_147 _ rfl) rfl ?_
      refine ev_ior (pc1 := 31) (TBof tbs_147 _ rfl) rfl ?_
      refine ev_istore_n (pc1 := 32) (L1 := [(1, .int (v1 ||| 0)), (0, .ref 73), (2, .int v2)]) (by rw [ml_147]; decide) rfl (TBof tbs_147 _ rfl) rfl ?_
      refine ev_iinc (pc1 := 35) (n := 2) (c := 1) (x := v2) (cc := 1) (L1 := [(2, .int (v2 + 1)), (1, .int (v1 ||| 0)), (0, .ref 73)]) rfl (by rw [ml_147]; decide) (by decide) rfl (TBof tbs_147 _ rfl) rfl ?_
      refine ev_goto (pc1 := 4) (TBof tbs_147 _ rfl) (by decide) ?_
      exact ev_le [2, 1, 0] rfl rfl H
    · replace H := H.2 c3
      refine ev_iconst (pc1 := 24) (x := 1) (by decide) (TBof tbs_147 _ rfl) rfl ?_
      refine ev_iload_n (pc1 := 25) rfl (TBof tbs_147 _ rfl) rfl ?_
      refine ev_ishl (pc1 := 26) (TBof tbs_147 _ rfl) rfl ?_
      refine ev_goto (pc1 := 30) (TBof tbs_147 _ rfl) (by decide) ?_
      refine ev_ior (pc1 := 31) (TBof tbs_147 _ rfl) rfl ?_
      refine ev_istore_n (pc1 := 32) (L1 := [(1, .int (v1 ||| (1 <<< (v2 &&& 31)))), (0, .ref 73), (2, .int v2)]) (by rw [ml_147]; decide) rfl (TBof tbs_147 _ rfl) rfl ?_
      refine ev_iinc (pc1 := 35) (n := 2) (c := 1) (x := v2) (cc := 1) (L1 := [(2, .int (v2 + 1)), (1, .int (v1 ||| (1 <<< (v2 &&& 31)))), (0, .ref 73)]) rfl (by rw [ml_147]; decide) (by decide) rfl (TBof tbs_147 _ rfl) rfl ?_
      refine ev_goto (pc1 := 4) (TBof tbs_147 _ rfl) (by decide) ?_
      exact ev_le [2, 1, 0] rfl rfl H
set_option maxRecDepth 100000 in
theorem R_X4_count_0 {d : Nat} {v1 : Int32} {M : Im} {h : Hm} {D : Dm} {Q : Int32 → Im → Hm → Dm → Prop} (H : ((v1.toInt < 0 ∨ 10 < v1.toInt) → (Q (-2) M h D)) ∧ ((v1 = 0) → (vp_in 0 168 ∧ (Q (M 74 ((0 : Int32).toNatClampNeg)) M h D))) ∧ ((v1 = 1) → (vp_in 1 168 ∧ (Q (M 74 ((1 : Int32).toNatClampNeg)) M h D))) ∧ ((v1 = 2) → (CI d nX4_sumOf [.ref 73, .int 6] M h D (fun x2 M2 h2 D2 => Q x2 M2 h2 D2))) ∧ ((v1 = 3) → (CI d nX4_handSet [.ref 73] M h D (fun x3 M3 h3 D3 => Q x3 M3 h3 D3))) ∧ ((v1 = 4) → (CI d nX4_sumOf [.ref 73, .int 7] M h D (fun x4 M4 h4 D4 => Q x4 M4 h4 D4))) ∧ ((v1 = 5) → (vp_in 2 168 ∧ (Q (M 74 ((2 : Int32).toNatClampNeg)) M h D))) ∧ ((v1 = 6) → (CI d nX4_stuckSet [.ref 73] M h D (fun x5 M5 h5 D5 => ((¬ (x5 = 0)) → (Q 0 M5 h5 D5)) ∧ (¬ (¬ (x5 = 0)) → (Q 1 M5 h5 D5))))) ∧ ((v1 = 7) → (CI d nX4_stuckSet [.ref 73] M h D (fun x7 M7 h7 D7 => Q x7 M7 h7 D7))) ∧ ((v1 = 8) → (CI d nX4_isGame [.ref 73] M h D (fun x8 M8 h8 D8 => ((x8 = 0) → (Q 0 M8 h8 D8)) ∧ (¬ (x8 = 0) → (CI d nX4_openableSet [.ref 73] M8 h8 D8 (fun x10 M10 h10 D10 => Q x10 M10 h10 D10)))))) ∧ ((v1 = 9) → (Q (M 73 11) M h D)) ∧ ((v1 = 10) → (Q (M 73 10) M h D))) : EvI d nX4_count 0 [(0, .ref 73), (1, .int v1)] [] M h D Q := by
  refine ev_iload_n (pc1 := 1) rfl (TBof tbs_148 _ rfl) rfl ?_
  refine ev_table (TBof tbs_148 _ rfl) (fun c1 => ⟨144, by decide, ?_⟩) (fun c1 => ?_)
  · replace H := H.1 c1
    refine ev_bipush (pc1 := 146) (x := (-2)) (by decide) (TBof tbs_148 _ rfl) rfl ?_
    exact ev_ireturn (TBof tbs_148 _ rfl) (retI_i rt_148) ⟨_, rfl, H⟩
  · have e1 : v1.toInt = 0 ∨ v1.toInt = 1 ∨ v1.toInt = 2 ∨ v1.toInt = 3 ∨ v1.toInt = 4 ∨ v1.toInt = 5 ∨ v1.toInt = 6 ∨ v1.toInt = 7 ∨ v1.toInt = 8 ∨ v1.toInt = 9 ∨ v1.toInt = 10 := by omega
    replace H := H.2
    rcases e1 with e1 | e1 | e1 | e1 | e1 | e1 | e1 | e1 | e1 | e1 | e1
    · refine ⟨59, 60, by rw [e1]; rfl, by decide, ?_⟩
      replace H := H.1 (Int32.toInt_inj.mp (by rw [e1]; decide))
      refine ev_aload_n (pc1 := 61) rfl rfl (TBof tbs_148 _ rfl) rfl ?_
      refine ev_getP (pc1 := 64) (ci := 4) (k := 0) (a := 74) (TBof tbs_148 _ rfl) rfl (fldof mo_148 fl_4_7) ltc_73 sh_73 nk_4_0 fp_4_0 (by decide) pf_73_0 ?_
      refine ev_iconst (pc1 := 65) (x := 0) (by decide) (TBof tbs_148 _ rfl) rfl ?_
      refine ev_iaload (pc1 := 66) (n := 168) (TBof tbs_148 _ rfl) rfl ltc_74 sh_74 H.1 ?_
      replace H := H.2
      exact ev_ireturn (TBof tbs_148 _ rfl) (retI_i rt_148) ⟨_, rfl, H⟩
    · refine ⟨66, 67, by rw [e1]; rfl, by decide, ?_⟩
      replace H := H.2.1 (Int32.toInt_inj.mp (by rw [e1]; decide))
      refine ev_aload_n (pc1 := 68) rfl rfl (TBof tbs_148 _ rfl) rfl ?_
      refine ev_getP (pc1 := 71) (ci := 4) (k := 0) (a := 74) (TBof tbs_148 _ rfl) rfl (fldof mo_148 fl_4_7) ltc_73 sh_73 nk_4_0 fp_4_0 (by decide) pf_73_0 ?_
      refine ev_iconst (pc1 := 72) (x := 1) (by decide) (TBof tbs_148 _ rfl) rfl ?_
      refine ev_iaload (pc1 := 73) (n := 168) (TBof tbs_148 _ rfl) rfl ltc_74 sh_74 H.1 ?_
      replace H := H.2
      exact ev_ireturn (TBof tbs_148 _ rfl) (retI_i rt_148) ⟨_, rfl, H⟩
    · refine ⟨73, 74, by rw [e1]; rfl, by decide, ?_⟩
      replace H := H.2.2.1 (Int32.toInt_inj.mp (by rw [e1]; decide))
      refine ev_aload_n (pc1 := 75) rfl rfl (TBof tbs_148 _ rfl) rfl ?_
      refine ev_bipush (pc1 := 77) (x := 6) (by decide) (TBof tbs_148 _ rfl) rfl ?_
      refine ev_callvI (pc1 := 80) (as := [.int 6]) (r := []) (TBof tbs_148 _ rfl) rfl (lnkof mo_148 ln_4_124) rfl na_90 ltc_73 (sh_73.trans (by rw [mo_90])) (Nat.le_of_ble_eq_true rfl) H (fun x2 M2 h2 D2 H => ?_)
      exact ev_ireturn (TBof tbs_148 _ rfl) (retI_i rt_148) ⟨_, rfl, H⟩
    · refine ⟨80, 81, by rw [e1]; rfl, by decide, ?_⟩
      replace H := H.2.2.2.1 (Int32.toInt_inj.mp (by rw [e1]; decide))
      refine ev_aload_n (pc1 := 82) rfl rfl (TBof tbs_148 _ rfl) rfl ?_
      refine ev_callvI (pc1 := 85) (as := []) (r := []) (TBof tbs_148 _ rfl) rfl (lnkof mo_148 ln_4_210) rfl na_145 ltc_73 (sh_73.trans (by rw [mo_145])) (Nat.le_of_ble_eq_true rfl) H (fun x3 M3 h3 D3 H => ?_)
      exact ev_ireturn (TBof tbs_148 _ rfl) (retI_i rt_148) ⟨_, rfl, H⟩
    · refine ⟨85, 86, by rw [e1]; rfl, by decide, ?_⟩
      replace H := H.2.2.2.2.1 (Int32.toInt_inj.mp (by rw [e1]; decide))
      refine ev_aload_n (pc1 := 87) rfl rfl (TBof tbs_148 _ rfl) rfl ?_
      refine ev_bipush (pc1 := 89) (x := 7) (by decide) (TBof tbs_148 _ rfl) rfl ?_
      refine ev_callvI (pc1 := 92) (as := [.int 7]) (r := []) (TBof tbs_148 _ rfl) rfl (lnkof mo_148 ln_4_124) rfl na_90 ltc_73 (sh_73.trans (by rw [mo_90])) (Nat.le_of_ble_eq_true rfl) H (fun x4 M4 h4 D4 H => ?_)
      exact ev_ireturn (TBof tbs_148 _ rfl) (retI_i rt_148) ⟨_, rfl, H⟩
    · refine ⟨92, 93, by rw [e1]; rfl, by decide, ?_⟩
      replace H := H.2.2.2.2.2.1 (Int32.toInt_inj.mp (by rw [e1]; decide))
      refine ev_aload_n (pc1 := 94) rfl rfl (TBof tbs_148 _ rfl) rfl ?_
      refine ev_getP (pc1 := 97) (ci := 4) (k := 0) (a := 74) (TBof tbs_148 _ rfl) rfl (fldof mo_148 fl_4_7) ltc_73 sh_73 nk_4_0 fp_4_0 (by decide) pf_73_0 ?_
      refine ev_iconst (pc1 := 98) (x := 2) (by decide) (TBof tbs_148 _ rfl) rfl ?_
      refine ev_iaload (pc1 := 99) (n := 168) (TBof tbs_148 _ rfl) rfl ltc_74 sh_74 H.1 ?_
      replace H := H.2
      exact ev_ireturn (TBof tbs_148 _ rfl) (retI_i rt_148) ⟨_, rfl, H⟩
    · refine ⟨99, 100, by rw [e1]; rfl, by decide, ?_⟩
      replace H := H.2.2.2.2.2.2.1 (Int32.toInt_inj.mp (by rw [e1]; decide))
      refine ev_aload_n (pc1 := 101) rfl rfl (TBof tbs_148 _ rfl) rfl ?_
      refine ev_callvI (pc1 := 104) (as := []) (r := []) (TBof tbs_148 _ rfl) rfl (lnkof mo_148 ln_4_213) rfl na_146 ltc_73 (sh_73.trans (by rw [mo_146])) (Nat.le_of_ble_eq_true rfl) H (fun x5 M5 h5 D5 H => ?_)
      refine ev_if (pc1 := 107) (t := 111) (TBof tbs_148 _ rfl) (by decide) rfl (fun c6 => ?_) (fun c6 => ?_)
      · replace H := H.1 c6
        refine ev_iconst (pc1 := 112) (x := 0) (by decide) (TBof tbs_148 _ rfl) rfl ?_
        exact ev_ireturn (TBof tbs_148 _ rfl) (retI_i rt_148) ⟨_, rfl, H⟩
      · replace H := H.2 c6
        refine ev_iconst (pc1 := 108) (x := 1) (by decide) (TBof tbs_148 _ rfl) rfl ?_
        refine ev_goto (pc1 := 112) (TBof tbs_148 _ rfl) (by decide) ?_
        exact ev_ireturn (TBof tbs_148 _ rfl) (retI_i rt_148) ⟨_, rfl, H⟩
    · refine ⟨112, 113, by rw [e1]; rfl, by decide, ?_⟩
      replace H := H.2.2.2.2.2.2.2.1 (Int32.toInt_inj.mp (by rw [e1]; decide))
      refine ev_aload_n (pc1 := 114) rfl rfl (TBof tbs_148 _ rfl) rfl ?_
      refine ev_callvI (pc1 := 117) (as := []) (r := []) (TBof tbs_148 _ rfl) rfl (lnkof mo_148 ln_4_213) rfl na_146 ltc_73 (sh_73.trans (by rw [mo_146])) (Nat.le_of_ble_eq_true rfl) H (fun x7 M7 h7 D7 H => ?_)
      exact ev_ireturn (TBof tbs_148 _ rfl) (retI_i rt_148) ⟨_, rfl, H⟩
    · refine ⟨117, 118, by rw [e1]; rfl, by decide, ?_⟩
      replace H := H.2.2.2.2.2.2.2.2.1 (Int32.toInt_inj.mp (by rw [e1]; decide))
      refine ev_aload_n (pc1 := 119) rfl rfl (TBof tbs_148 _ rfl) rfl ?_
      refine ev_callvI (pc1 := 122) (as := []) (r := []) (TBof tbs_148 _ rfl) rfl (lnkof mo_148 ln_4_62) rfl na_89 ltc_73 (sh_73.trans (by rw [mo_89])) (Nat.le_of_ble_eq_true rfl) H (fun x8 M8 h8 D8 H => ?_)
      refine ev_if (pc1 := 125) (t := 132) (TBof tbs_148 _ rfl) (by decide) rfl (fun c9 => ?_) (fun c9 => ?_)
      · replace H := H.1 c9
        refine ev_iconst (pc1 := 133) (x := 0) (by decide) (TBof tbs_148 _ rfl) rfl ?_
        exact ev_ireturn (TBof tbs_148 _ rfl) (retI_i rt_148) ⟨_, rfl, H⟩
      · replace H := H.2 c9
        refine ev_aload_n (pc1 := 126) rfl rfl (TBof tbs_148 _ rfl) rfl ?_
        refine ev_callvI (pc1 := 129) (as := []) (r := []) (TBof tbs_148 _ rfl) rfl (lnkof mo_148 ln_4_216) rfl na_147 ltc_73 (sh_73.trans (by rw [mo_147])) (Nat.le_of_ble_eq_true rfl) H (fun x10 M10 h10 D10 H => ?_)
        refine ev_goto (pc1 := 133) (TBof tbs_148 _ rfl) (by decide) ?_
        exact ev_ireturn (TBof tbs_148 _ rfl) (retI_i rt_148) ⟨_, rfl, H⟩
    · refine ⟨133, 134, by rw [e1]; rfl, by decide, ?_⟩
      replace H := H.2.2.2.2.2.2.2.2.2.1 (Int32.toInt_inj.mp (by rw [e1]; decide))
      refine ev_aload_n (pc1 := 135) rfl rfl (TBof tbs_148 _ rfl) rfl ?_
      refine ev_getI (pc1 := 138) (ci := 4) (k := 11) (TBof tbs_148 _ rfl) rfl (fldof mo_148 fl_4_47) ltc_73 sh_73 nk_4_11 fi_4_11 ?_
      exact ev_ireturn (TBof tbs_148 _ rfl) (retI_i rt_148) ⟨_, rfl, H⟩
    · refine ⟨138, 139, by rw [e1]; rfl, by decide, ?_⟩
      replace H := H.2.2.2.2.2.2.2.2.2.2 (Int32.toInt_inj.mp (by rw [e1]; decide))
      refine ev_aload_n (pc1 := 140) rfl rfl (TBof tbs_148 _ rfl) rfl ?_
      refine ev_getI (pc1 := 143) (ci := 4) (k := 10) (TBof tbs_148 _ rfl) rfl (fldof mo_148 fl_4_73) ltc_73 sh_73 nk_4_10 fi_4_10 ?_
      exact ev_ireturn (TBof tbs_148 _ rfl) (retI_i rt_148) ⟨_, rfl, H⟩

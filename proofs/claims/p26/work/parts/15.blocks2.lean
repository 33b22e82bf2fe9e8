/-! what each block of code asks: class 2 -/
set_option maxRecDepth 100000 in
theorem R_X2_copyFrom_0 {d : Nat} {S : Nat} {T : Nat} {M : Im} {h : Hm} {D : Dm} {Q : Im → Hm → Dm → Prop} (hS : St S) (hT : St T) (H : (((up2 M S 0 (M T 0)) T 1) = 0 ∨ ((up2 M S 0 (M T 0)) T 1) = 1) ∧ (∀ M1 : Im, M1 = up2 (up2 (up2 M S 0 (M T 0)) S 1 ((up2 M S 0 (M T 0)) T 1)) S 2 ((up2 (up2 M S 0 (M T 0)) S 1 ((up2 M S 0 (M T 0)) T 1)) T 2) → (∀ M2 : Im, M2 = up2 (up2 (up2 M1 S 3 (M1 T 3)) S 4 ((up2 M1 S 3 (M1 T 3)) T 4)) S 5 ((up2 (up2 M1 S 3 (M1 T 3)) S 4 ((up2 M1 S 3 (M1 T 3)) T 4)) T 5) → (1 ≤ d ∧ (1 ≤ d ∧ (1 ≤ d ∧ (∀ M3 : Im, M3 = cp2 (cp2 (cp2 (up2 M2 S 6 (M2 T 6)) (T + 1) 0 (S + 1) 0 16) (T + 2) 0 (S + 2) 0 16) (T + 3) 0 (S + 3) 0 16 → (1 ≤ d ∧ (1 ≤ d ∧ (1 ≤ d ∧ (1 ≤ d ∧ (∀ M4 : Im, M4 = cp2 (cp2 (cp2 (cp2 M3 (T + 4) 0 (S + 4) 0 16) (T + 5) 0 (S + 5) 0 16) (T + 6) 0 (S + 6) 0 16) (T + 7) 0 (S + 7) 0 12 → (1 ≤ d ∧ (Q (cp2 M4 (T + 8) 0 (S + 8) 0 12) h D)))))))))))))) : EvV d nX2_copyFrom 0 [(0, .ref S), (1, .ref T)] [] M h D Q := by
  refine ev_aload_n (pc1 := 1) rfl rfl (TBof tbs_14 _ rfl) rfl ?_
  refine ev_aload_n (pc1 := 2) rfl rfl (TBof tbs_14 _ rfl) rfl ?_
  refine ev_getI (pc1 := 5) (ci := 2) (k := 0) (TBof tbs_14 _ rfl) rfl (fldof mo_14 fl_2_36) hT.lt0 hT.sh nk_2_0 fi_2_0 ?_
  refine ev_putI (pc1 := 8) (ci := 2) (k := 0) (TBof tbs_14 _ rfl) rfl (fldof mo_14 fl_2_36) hS.lt0 hS.sh nk_2_0 rfl rfl ?_
  refine ev_aload_n (pc1 := 9) rfl rfl (TBof tbs_14 _ rfl) rfl ?_
  refine ev_aload_n (pc1 := 10) rfl rfl (TBof tbs_14 _ rfl) rfl ?_
  refine ev_getI (pc1 := 13) (ci := 2) (k := 1) (TBof tbs_14 _ rfl) rfl (fldof mo_14 fl_2_40) hT.lt0 hT.sh nk_2_1 fi_2_1 ?_
  refine ev_putZ (pc1 := 16) (ci := 2) (k := 1) (TBof tbs_14 _ rfl) rfl (fldof mo_14 fl_2_40) hS.lt0 hS.sh nk_2_1 rfl rfl H.1 ?_
  replace H := H.2
  refine ev_aload_n (pc1 := 17) rfl rfl (TBof tbs_14 _ rfl) rfl ?_
  refine ev_aload_n (pc1 := 18) rfl rfl (TBof tbs_14 _ rfl) rfl ?_
  refine ev_getI (pc1 := 21) (ci := 2) (k := 2) (TBof tbs_14 _ rfl) rfl (fldof mo_14 fl_2_44) hT.lt0 hT.sh nk_2_2 fi_2_2 ?_
  refine ev_putI (pc1 := 24) (ci := 2) (k := 2) (TBof tbs_14 _ rfl) rfl (fldof mo_14 fl_2_44) hS.lt0 hS.sh nk_2_2 rfl rfl ?_
  generalize e1 : up2 (up2 (up2 M S 0 (M T 0)) S 1 ((up2 M S 0 (M T 0)) T 1)) S 2 ((up2 (up2 M S 0 (M T 0)) S 1 ((up2 M S 0 (M T 0)) T 1)) T 2) = M1
  replace H := H M1 e1.symm
  refine ev_aload_n (pc1 := 25) rfl rfl (TBof tbs_14 _ rfl) rfl ?_
  refine ev_aload_n (pc1 := 26) rfl rfl (TBof tbs_14 _ rfl) rfl ?_
  refine ev_getI (pc1 := 29) (ci := 2) (k := 3) (TBof tbs_14 _ rfl) rfl (fldof mo_14 fl_2_47) hT.lt0 hT.sh nk_2_3 fi_2_3 ?_
  refine ev_putI (pc1 := 32) (ci := 2) (k := 3) (TBof tbs_14 _ rfl) rfl (fldof mo_14 fl_2_47) hS.lt0 hS.sh nk_2_3 rfl rfl ?_
  refine ev_aload_n (pc1 := 33) rfl rfl (TBof tbs_14 _ rfl) rfl ?_
  refine ev_aload_n (pc1 := 34) rfl rfl (TBof tbs_14 _ rfl) rfl ?_
  refine ev_getI (pc1 := 37) (ci := 2) (k := 4) (TBof tbs_14 _ rfl) rfl (fldof mo_14 fl_2_50) hT.lt0 hT.sh nk_2_4 fi_2_4 ?_
  refine ev_putI (pc1 := 40) (ci := 2) (k := 4) (TBof tbs_14 _ rfl) rfl (fldof mo_14 fl_2_50) hS.lt0 hS.sh nk_2_4 rfl rfl ?_
  refine ev_aload_n (pc1 := 41) rfl rfl (TBof tbs_14 _ rfl) rfl ?_
  refine ev_aload_n (pc1 := 42) rfl rfl (TBof tbs_14 _ rfl) rfl ?_
  refine ev_getI (pc1 := 45) (ci := 2) (k := 5) (TBof tbs_14 _ rfl) rfl (fldof mo_14 fl_2_53) hT.lt0 hT.sh nk_2_5 fi_2_5 ?_
  refine ev_putI (pc1 := 48) (ci := 2) (k := 5) (TBof tbs_14 _ rfl) rfl (fldof mo_14 fl_2_53) hS.lt0 hS.sh nk_2_5 rfl rfl ?_
  generalize e2 : up2 (up2 (up2 M1 S 3 (M1 T 3)) S 4 ((up2 M1 S 3 (M1 T 3)) T 4)) S 5 ((up2 (up2 M1 S 3 (M1 T 3)) S 4 ((up2 M1 S 3 (M1 T 3)) T 4)) T 5) = M2
  replace H := H M2 e2.symm
  refine ev_aload_n (pc1 := 49) rfl rfl (TBof tbs_14 _ rfl) rfl ?_
  refine ev_aload_n (pc1 := 50) rfl rfl (TBof tbs_14 _ rfl) rfl ?_
  refine ev_getI (pc1 := 53) (ci := 2) (k := 6) (TBof tbs_14 _ rfl) rfl (fldof mo_14 fl_2_56) hT.lt0 hT.sh nk_2_6 fi_2_6 ?_
  refine ev_putI (pc1 := 56) (ci := 2) (k := 6) (TBof tbs_14 _ rfl) rfl (fldof mo_14 fl_2_56) hS.lt0 hS.sh nk_2_6 rfl rfl ?_
  refine ev_aload_n (pc1 := 57) rfl rfl (TBof tbs_14 _ rfl) rfl ?_
  refine ev_getP (pc1 := 60) (ci := 2) (k := 7) (a := (T + 1)) (TBof tbs_14 _ rfl) rfl (fldof mo_14 fl_2_9) hT.lt0 hT.sh nk_2_7 fp_2_7 hT.n28 hT.p7 ?_
  refine ev_iconst (pc1 := 61) (x := 0) (by decide) (TBof tbs_14 _ rfl) rfl ?_
  refine ev_aload_n (pc1 := 62) rfl rfl (TBof tbs_14 _ rfl) rfl ?_
  refine ev_getP (pc1 := 65) (ci := 2) (k := 7) (a := (S + 1)) (TBof tbs_14 _ rfl) rfl (fldof mo_14 fl_2_9) hS.lt0 hS.sh nk_2_7 fp_2_7 hS.n28 hS.p7 ?_
  refine ev_iconst (pc1 := 66) (x := 0) (by decide) (TBof tbs_14 _ rfl) rfl ?_
  refine ev_bipush (pc1 := 68) (x := 16) (by decide) (TBof tbs_14 _ rfl) rfl ?_
  refine ev_copy (pc1 := 71) (n := 16) (n0 := 16) (n1 := 16) (TBof tbs_14 _ rfl) rfl (lnkof mo_14 ln_2_59) (Nat.le_of_ble_eq_true rfl) H.1 (hT.lt (j := 1) (by decide)) (hS.lt (j := 1) (by decide)) hT.a1 hS.a1 (by decide) (by decide) (by decide) (by decide) ?_
  replace H := H.2
  refine ev_aload_n (pc1 := 72) rfl rfl (TBof tbs_14 _ rfl) rfl ?_
  refine ev_getP (pc1 := 75) (ci := 2) (k := 8) (a := (T + 2)) (TBof tbs_14 _ rfl) rfl (fldof mo_14 fl_2_15) hT.lt0 hT.sh nk_2_8 fp_2_8 hT.n28 hT.p8 ?_
  refine ev_iconst (pc1 := 76) (x := 0) (by decide) (TBof tbs_14 _ rfl) rfl ?_
  refine ev_aload_n (pc1 := 77) rfl rfl (TBof tbs_14 _ rfl) rfl ?_
  refine ev_getP (pc1 := 80) (ci := 2) (k := 8) (a := (S + 2)) (TBof tbs_14 _ rfl) rfl (fldof mo_14 fl_2_15) hS.lt0 hS.sh nk_2_8 fp_2_8 hS.n28 hS.p8 ?_
  refine ev_iconst (pc1 := 81) (x := 0) (by decide) (TBof tbs_14 _ rfl) rfl ?_
  refine ev_bipush (pc1 := 83) (x := 16) (by decide) (TBof tbs_14 _ rfl) rfl ?_
  refine ev_copy (pc1 := 86) (n := 16) (n0 := 16) (n1 := 16) (TBof tbs_14 _ rfl) rfl (lnkof mo_14 ln_2_59) (Nat.le_of_ble_eq_true rfl) H.1 (hT.lt (j := 2) (by decide)) (hS.lt (j := 2) (by decide)) hT.a2 hS.a2 (by decide) (by decide) (by decide) (by decide) ?_
  replace H := H.2
  refine ev_aload_n (pc1 := 87) rfl rfl (TBof tbs_14 _ rfl) rfl ?_
  refine ev_getP (pc1 := 90) (ci := 2) (k := 9) (a := (T + 3)) (TBof tbs_14 _ rfl) rfl (fldof mo_14 fl_2_18) hT.lt0 hT.sh nk_2_9 fp_2_9 hT.n28 hT.p9 ?_
  refine ev_iconst (pc1 := 91) (x := 0) (by decide) (TBof tbs_14 _ rfl) rfl ?_
  refine ev_aload_n (pc1 := 92) rfl rfl (TBof tbs_14 _ rfl) rfl ?_
  refine ev_getP (pc1 := 95) (ci := 2) (k := 9) (a := (S + 3)) (TBof tbs_14 _ rfl) rfl (fldof mo_14 fl_2_18) hS.lt0 hS.sh nk_2_9 fp_2_9 hS.n28 hS.p9 ?_
  refine ev_iconst (pc1 := 96) (x := 0) (by decide) (TBof tbs_14 _ rfl) rfl ?_
  refine ev_bipush (pc1 := 98) (x := 16) (by decide) (TBof tbs_14 _ rfl) rfl ?_
  refine ev_copy (pc1 := 101) (n := 16) (n0 := 16) (n1 := 16) (TBof tbs_14 _ rfl) rfl (lnkof mo_14 ln_2_59) (Nat.le_of_ble_eq_true rfl) H.1 (hT.lt (j := 3) (by decide)) (hS.lt (j := 3) (by decide)) hT.a3 hS.a3 (by decide) (by decide) (by decide) (by decide) ?_
  replace H := H.2
  generalize e3 : cp2 (cp2 (cp2 (up2 M2 S 6 (M2 T 6)) (T + 1) 0 (S + 1) 0 16) (T + 2) 0 (S + 2) 0 16) (T + 3) 0 (S + 3) 0 16 = M3
  replace H := H M3 e3.symm
  refine ev_aload_n (pc1 := 102) rfl rfl (TBof tbs_14 _ rfl) rfl ?_
  refine ev_getP (pc1 := 105) (ci := 2) (k := 10) (a := (T + 4)) (TBof tbs_14 _ rfl) rfl (fldof mo_14 fl_2_21) hT.lt0 hT.sh nk_2_10 fp_2_10 hT.n28 hT.p10 ?_
  refine ev_iconst (pc1 := 106) (x := 0) (by decide) (TBof tbs_14 _ rfl) rfl ?_
  refine ev_aload_n (pc1 := 107) rfl rfl (TBof tbs_14 _ rfl) rfl ?_
  refine ev_getP (pc1 := 110) (ci := 2) (k := 10) (a := (S + 4)) (TBof tbs_14 _ rfl) rfl (fldof mo_14 fl_2_21) hS.lt0 hS.sh nk_2_10 fp_2_10 hS.n28 hS.p10 ?_
  refine ev_iconst (pc1 := 111) (x := 0) (by decide) (TBof tbs_14 _ rfl) rfl ?_
  refine ev_bipush (pc1 := 113) (x := 16) (by decide) (TBof tbs_14 _ rfl) rfl ?_
  refine ev_copy (pc1 := 116) (n := 16) (n0 := 16) (n1 := 16) (TBof tbs_14 _ rfl) rfl (lnkof mo_14 ln_2_59) (Nat.le_of_ble_eq_true rfl) H.1 (hT.lt (j := 4) (by decide)) (hS.lt (j := 4) (by decide)) hT.a4 hS.a4 (by decide) (by decide) (by decide) (by decide) ?_
  replace H := H.2
  refine ev_aload_n (pc1 := 117) rfl rfl (TBof tbs_14 _ rfl) rfl ?_
  refine ev_getP (pc1 := 120) (ci := 2) (k := 11) (a := (T + 5)) (TBof tbs_14 _ rfl) rfl (fldof mo_14 fl_2_24) hT.lt0 hT.sh nk_2_11 fp_2_11 hT.n28 hT.p11 ?_
  refine ev_iconst (pc1 := 121) (x := 0) (by decide) (TBof tbs_14 _ rfl) rfl ?_
  refine ev_aload_n (pc1 := 122) rfl rfl (TBof tbs_14 _ rfl) rfl ?_
  refine ev_getP (pc1 := 125) (ci := 2) (k := 11) (a := (S + 5)) (TBof tbs_14 _ rfl) rfl (fldof mo_14 fl_2_24) hS.lt0 hS.sh nk_2_11 fp_2_11 hS.n28 hS.p11 ?_
  refine ev_iconst (pc1 := 126) (x := 0) (by decide) (TBof tbs_14 _ rfl) rfl ?_
  refine ev_bipush (pc1 := 128) (x := 16) (by decide) (TBof tbs_14 _ rfl) rfl ?_
  refine ev_copy (pc1 := 131) (n := 16) (n0 := 16) (n1 := 16) (TBof tbs_14 _ rfl) rfl (lnkof mo_14 ln_2_59) (Nat.le_of_ble_eq_true rfl) H.1 (hT.lt (j := 5) (by decide)) (hS.lt (j := 5) (by decide)) hT.a5 hS.a5 (by decide) (by decide) (by decide) (by decide) ?_
  replace H := H.2
  refine ev_aload_n (pc1 := 132) rfl rfl (TBof tbs_14 _ rfl) rfl ?_
  refine ev_getP (pc1 := 135) (ci := 2) (k := 12) (a := (T + 6)) (TBof tbs_14 _ rfl) rfl (fldof mo_14 fl_2_27) hT.lt0 hT.sh nk_2_12 fp_2_12 hT.n28 hT.p12 ?_
  refine ev_iconst (pc1 := 136) (x := 0) (by decide) (TBof tbs_14 _ rfl) rfl ?_
  refine ev_aload_n (pc1 := 137) rfl rfl (TBof tbs_14 _ rfl) rfl ?_
  refine ev_getP (pc1 := 140) (ci := 2) (k := 12) (a := (S + 6)) (TBof tbs_14 _ rfl) rfl (fldof mo_14 fl_2_27) hS.lt0 hS.sh nk_2_12 fp_2_12 hS.n28 hS.p12 ?_
  refine ev_iconst (pc1 := 141) (x := 0) (by decide) (TBof tbs_14 _ rfl) rfl ?_
  refine ev_bipush (pc1 := 143) (x := 16) (by decide) (TBof tbs_14 _ rfl) rfl ?_
  refine ev_copy (pc1 := 146) (n := 16) (n0 := 16) (n1 := 16) (TBof tbs_14 _ rfl) rfl (lnkof mo_14 ln_2_59) (Nat.le_of_ble_eq_true rfl) H.1 (hT.lt (j := 6) (by decide)) (hS.lt (j := 6) (by decide)) hT.a6 hS.a6 (by decide) (by decide) (by decide) (by decide) ?_
  replace H := H.2
  refine ev_aload_n (pc1 := 147) rfl rfl (TBof tbs_14 _ rfl) rfl ?_
  refine ev_getP (pc1 := 150) (ci := 2) (k := 13) (a := (T + 7)) (TBof tbs_14 _ rfl) rfl (fldof mo_14 fl_2_30) hT.lt0 hT.sh nk_2_13 fp_2_13 hT.n28 hT.p13 ?_
  refine ev_iconst (pc1 := 151) (x := 0) (by decide) (TBof tbs_14 _ rfl) rfl ?_
  refine ev_aload_n (pc1 := 152) rfl rfl (TBof tbs_14 _ rfl) rfl ?_
  refine ev_getP (pc1 := 155) (ci := 2) (k := 13) (a := (S + 7)) (TBof tbs_14 _ rfl) rfl (fldof mo_14 fl_2_30) hS.lt0 hS.sh nk_2_13 fp_2_13 hS.n28 hS.p13 ?_
  refine ev_iconst (pc1 := 156) (x := 0) (by decide) (TBof tbs_14 _ rfl) rfl ?_
  refine ev_bipush (pc1 := 158) (x := 12) (by decide) (TBof tbs_14 _ rfl) rfl ?_
  refine ev_copy (pc1 := 161) (n := 12) (n0 := 12) (n1 := 12) (TBof tbs_14 _ rfl) rfl (lnkof mo_14 ln_2_59) (Nat.le_of_ble_eq_true rfl) H.1 (hT.lt (j := 7) (by decide)) (hS.lt (j := 7) (by decide)) hT.a7 hS.a7 (by decide) (by decide) (by decide) (by decide) ?_
  replace H := H.2
  generalize e4 : cp2 (cp2 (cp2 (cp2 M3 (T + 4) 0 (S + 4) 0 16) (T + 5) 0 (S + 5) 0 16) (T + 6) 0 (S + 6) 0 16) (T + 7) 0 (S + 7) 0 12 = M4
  replace H := H M4 e4.symm
  refine ev_aload_n (pc1 := 162) rfl rfl (TBof tbs_14 _ rfl) rfl ?_
  refine ev_getP (pc1 := 165) (ci := 2) (k := 14) (a := (T + 8)) (TBof tbs_14 _ rfl) rfl (fldof mo_14 fl_2_33) hT.lt0 hT.sh nk_2_14 fp_2_14 hT.n28 hT.p14 ?_
  refine ev_iconst (pc1 := 166) (x := 0) (by decide) (TBof tbs_14 _ rfl) rfl ?_
  refine ev_aload_n (pc1 := 167) rfl rfl (TBof tbs_14 _ rfl) rfl ?_
  refine ev_getP (pc1 := 170) (ci := 2) (k := 14) (a := (S + 8)) (TBof tbs_14 _ rfl) rfl (fldof mo_14 fl_2_33) hS.lt0 hS.sh nk_2_14 fp_2_14 hS.n28 hS.p14 ?_
  refine ev_iconst (pc1 := 171) (x := 0) (by decide) (TBof tbs_14 _ rfl) rfl ?_
  refine ev_bipush (pc1 := 173) (x := 12) (by decide) (TBof tbs_14 _ rfl) rfl ?_
  refine ev_copy (pc1 := 176) (n := 12) (n0 := 12) (n1 := 12) (TBof tbs_14 _ rfl) rfl (lnkof mo_14 ln_2_59) (Nat.le_of_ble_eq_true rfl) H.1 (hT.lt (j := 8) (by decide)) (hS.lt (j := 8) (by decide)) hT.a8 hS.a8 (by decide) (by decide) (by decide) (by decide) ?_
  replace H := H.2
  exact ev_return (TBof tbs_14 _ rfl) rt_14 ⟨rfl, H⟩
set_option maxRecDepth 100000 in
theorem R_X2_addDrawer_0 {d : Nat} {S : Nat} {v1 v2 v3 v4 v5 : Int32} {M : Im} {h : Hm} {D : Dm} {Q : Im → Hm → Dm → Prop} (hS : St S) (H : ((16 ≤ (M S 0)) → (Q M h D)) ∧ (¬ (16 ≤ (M S 0)) → (vp_in (M S 0) 16 ∧ (vp_in ((up2 M (S + 1) ((M S 0).toNatClampNeg) v1) S 0) 16 ∧ (∀ M2 : Im, M2 = up2 (up2 M (S + 1) ((M S 0).toNatClampNeg) v1) (S + 2) (((up2 M (S + 1) ((M S 0).toNatClampNeg) v1) S 0).toNatClampNeg) v2 → (((v2 = 1) → (EvV d nX2_addDrawer 53 [(0, .ref S), (1, .int v1), (2, .int v2), (3, .int v3), (4, .int v4), (5, .int v5)] [.int v3, .int (M2 S 0), .ref (S + 3)] M2 h D Q)) ∧ (¬ (v2 = 1) → (((¬ (v2 = 2)) → (EvV d nX2_addDrawer 53 [(0, .ref S), (1, .int v1), (2, .int v2), (3, .int v3), (4, .int v4), (5, .int v5)] [.int (-5), .int (M2 S 0), .ref (S + 3)] M2 h D Q)) ∧ (¬ (¬ (v2 = 2)) → (EvV d nX2_addDrawer 53 [(0, .ref S), (1, .int v1), (2, .int v2), (3, .int v3), (4, .int v4), (5, .int v5)] [.int v3, .int (M2 S 0), .ref (S + 3)] M2 h D Q)))))))))) : EvV d nX2_addDrawer 0 [(0, .ref S), (1, .int v1), (2, .int v2), (3, .int v3), (4, .int v4), (5, .int v5)] [] M h D Q := by
  refine ev_aload_n (pc1 := 1) rfl rfl (TBof tbs_15 _ rfl) rfl ?_
  refine ev_getI (pc1 := 4) (ci := 2) (k := 0) (TBof tbs_15 _ rfl) rfl (fldof mo_15 fl_2_36) hS.lt0 hS.sh nk_2_0 fi_2_0 ?_
  refine ev_bipush (pc1 := 6) (x := 16) (by decide) (TBof tbs_15 _ rfl) rfl ?_
  refine ev_icmp (pc1 := 9) (t := 96) (TBof tbs_15 _ rfl) (by decide) rfl (fun c1 => ?_) (fun c1 => ?_)
  · replace H := H.1 c1
    exact ev_return (TBof tbs_15 _ rfl) rt_15 ⟨rfl, H⟩
  · replace H := H.2 c1
    refine ev_aload_n (pc1 := 10) rfl rfl (TBof tbs_15 _ rfl) rfl ?_
    refine ev_getP (pc1 := 13) (ci := 2) (k := 7) (a := (S + 1)) (TBof tbs_15 _ rfl) rfl (fldof mo_15 fl_2_9) hS.lt0 hS.sh nk_2_7 fp_2_7 hS.n28 hS.p7 ?_
    refine ev_aload_n (pc1 := 14) rfl rfl (TBof tbs_15 _ rfl) rfl ?_
    refine ev_getI (pc1 := 17) (ci := 2) (k := 0) (TBof tbs_15 _ rfl) rfl (fldof mo_15 fl_2_36) hS.lt0 hS.sh nk_2_0 fi_2_0 ?_
    refine ev_iload_n (pc1 := 18) rfl (TBof tbs_15 _ rfl) rfl ?_
    refine ev_iastore (pc1 := 19) (n := 16) (TBof tbs_15 _ rfl) rfl (hS.lt (j := 1) (by decide)) hS.a1 H.1 ?_
    replace H := H.2
    refine ev_aload_n (pc1 := 20) rfl rfl (TBof tbs_15 _ rfl) rfl ?_
    refine ev_getP (pc1 := 23) (ci := 2) (k := 8) (a := (S + 2)) (TBof tbs_15 _ rfl) rfl (fldof mo_15 fl_2_15) hS.lt0 hS.sh nk_2_8 fp_2_8 hS.n28 hS.p8 ?_
    refine ev_aload_n (pc1 := 24) rfl rfl (TBof tbs_15 _ rfl) rfl ?_
    refine ev_getI (pc1 := 27) (ci := 2) (k := 0) (TBof tbs_15 _ rfl) rfl (fldof mo_15 fl_2_36) hS.lt0 hS.sh nk_2_0 fi_2_0 ?_
    refine ev_iload_n (pc1 := 28) rfl (TBof tbs_15 _ rfl) rfl ?_
    refine ev_iastore (pc1 := 29) (n := 16) (TBof tbs_15 _ rfl) rfl (hS.lt (j := 2) (by decide)) hS.a2 H.1 ?_
    replace H := H.2
    generalize e2 : up2 (up2 M (S + 1) ((M S 0).toNatClampNeg) v1) (S + 2) (((up2 M (S + 1) ((M S 0).toNatClampNeg) v1) S 0).toNatClampNeg) v2 = M2
    replace H := H M2 e2.symm
    refine ev_aload_n (pc1 := 30) rfl rfl (TBof tbs_15 _ rfl) rfl ?_
    refine ev_getP (pc1 := 33) (ci := 2) (k := 9) (a := (S + 3)) (TBof tbs_15 _ rfl) rfl (fldof mo_15 fl_2_18) hS.lt0 hS.sh nk_2_9 fp_2_9 hS.n28 hS.p9 ?_
    refine ev_aload_n (pc1 := 34) rfl rfl (TBof tbs_15 _ rfl) rfl ?_
    refine ev_getI (pc1 := 37) (ci := 2) (k := 0) (TBof tbs_15 _ rfl) rfl (fldof mo_15 fl_2_36) hS.lt0 hS.sh nk_2_0 fi_2_0 ?_
    refine ev_iload_n (pc1 := 38) rfl (TBof tbs_15 _ rfl) rfl ?_
    refine ev_iconst (pc1 := 39) (x := 1) (by decide) (TBof tbs_15 _ rfl) rfl ?_
    refine ev_icmp (pc1 := 42) (t := 47) (TBof tbs_15 _ rfl) (by decide) rfl (fun c3 => ?_) (fun c3 => ?_)
    · replace H := H.1 c3
      refine ev_iload_n (pc1 := 48) rfl (TBof tbs_15 _ rfl) rfl ?_
      refine ev_goto (pc1 := 53) (TBof tbs_15 _ rfl) (by decide) ?_
      exact ev_le [0, 1, 2, 3, 4, 5] rfl rfl H
    · replace H := H.2 c3
      refine ev_iload_n (pc1 := 43) rfl (TBof tbs_15 _ rfl) rfl ?_
      refine ev_iconst (pc1 := 44) (x := 2) (by decide) (TBof tbs_15 _ rfl) rfl ?_
      refine ev_icmp (pc1 := 47) (t := 51) (TBof tbs_15 _ rfl) (by decide) rfl (fun c4 => ?_) (fun c4 => ?_)
      · replace H := H.1 c4
        refine ev_bipush (pc1 := 53) (x := (-5)) (by decide) (TBof tbs_15 _ rfl) rfl ?_
        exact ev_le [0, 1, 2, 3, 4, 5] rfl rfl H
      · replace H := H.2 c4
        refine ev_iload_n (pc1 := 48) rfl (TBof tbs_15 _ rfl) rfl ?_
        refine ev_goto (pc1 := 53) (TBof tbs_15 _ rfl) (by decide) ?_
        exact ev_le [0, 1, 2, 3, 4, 5] rfl rfl H
set_option maxRecDepth 100000 in
theorem R_X2_addDrawer_53 {d : Nat} {S : Nat} {v1 v2 v3 v4 v5 s0 s1 : Int32} {M : Im} {h : Hm} {D : Dm} {Q : Im → Hm → Dm → Prop} (hS : St S) (H : vp_in s1 16 ∧ (vp_in ((up2 M (S + 3) (s1.toNatClampNeg) s0) S 0) 16 ∧ (∀ M1 : Im, M1 = up2 (up2 M (S + 3) (s1.toNatClampNeg) s0) (S + 4) (((up2 M (S + 3) (s1.toNatClampNeg) s0) S 0).toNatClampNeg) v4 → (vp_in (M1 S 0) 16 ∧ (vp_in ((up2 M1 (S + 5) ((M1 S 0).toNatClampNeg) v5) S 0) 16 ∧ (∀ M2 : Im, M2 = up2 (up2 M1 (S + 5) ((M1 S 0).toNatClampNeg) v5) (S + 6) (((up2 M1 (S + 5) ((M1 S 0).toNatClampNeg) v5) S 0).toNatClampNeg) 0 → (Q (up2 M2 S 0 ((M2 S 0) + 1)) h D))))))) : EvV d nX2_addDrawer 53 [(0, .ref S), (1, .int v1), (2, .int v2), (3, .int v3), (4, .int v4), (5, .int v5)] [.int s0, .int s1, .ref (S + 3)] M h D Q := by
  refine ev_iastore (pc1 := 54) (n := 16) (TBof tbs_15 _ rfl) rfl (hS.lt (j := 3) (by decide)) hS.a3 H.1 ?_
  replace H := H.2
  refine ev_aload_n (pc1 := 55) rfl rfl (TBof tbs_15 _ rfl) rfl ?_
  refine ev_getP (pc1 := 58) (ci := 2) (k := 10) (a := (S + 4)) (TBof tbs_15 _ rfl) rfl (fldof mo_15 fl_2_21) hS.lt0 hS.sh nk_2_10 fp_2_10 hS.n28 hS.p10 ?_
  refine ev_aload_n (pc1 := 59) rfl rfl (TBof tbs_15 _ rfl) rfl ?_
  refine ev_getI (pc1 := 62) (ci := 2) (k := 0) (TBof tbs_15 _ rfl) rfl (fldof mo_15 fl_2_36) hS.lt0 hS.sh nk_2_0 fi_2_0 ?_
  refine ev_iload (pc1 := 64) rfl (TBof tbs_15 _ rfl) rfl ?_
  refine ev_iastore (pc1 := 65) (n := 16) (TBof tbs_15 _ rfl) rfl (hS.lt (j := 4) (by decide)) hS.a4 H.1 ?_
  replace H := H.2
  generalize e1 : up2 (up2 M (S + 3) (s1.toNatClampNeg) s0) (S + 4) (((up2 M (S + 3) (s1.toNatClampNeg) s0) S 0).toNatClampNeg) v4 = M1
  replace H := H M1 e1.symm
  refine ev_aload_n (pc1 := 66) rfl rfl (TBof tbs_15 _ rfl) rfl ?_
  refine ev_getP (pc1 := 69) (ci := 2) (k := 11) (a := (S + 5)) (TBof tbs_15 _ rfl) rfl (fldof mo_15 fl_2_24) hS.lt0 hS.sh nk_2_11 fp_2_11 hS.n28 hS.p11 ?_
  refine ev_aload_n (pc1 := 70) rfl rfl (TBof tbs_15 _ rfl) rfl ?_
  refine ev_getI (pc1 := 73) (ci := 2) (k := 0) (TBof tbs_15 _ rfl) rfl (fldof mo_15 fl_2_36) hS.lt0 hS.sh nk_2_0 fi_2_0 ?_
  refine ev_iload (pc1 := 75) rfl (TBof tbs_15 _ rfl) rfl ?_
  refine ev_iastore (pc1 := 76) (n := 16) (TBof tbs_15 _ rfl) rfl (hS.lt (j := 5) (by decide)) hS.a5 H.1 ?_
  replace H := H.2
  refine ev_aload_n (pc1 := 77) rfl rfl (TBof tbs_15 _ rfl) rfl ?_
  refine ev_getP (pc1 := 80) (ci := 2) (k := 12) (a := (S + 6)) (TBof tbs_15 _ rfl) rfl (fldof mo_15 fl_2_27) hS.lt0 hS.sh nk_2_12 fp_2_12 hS.n28 hS.p12 ?_
  refine ev_aload_n (pc1 := 81) rfl rfl (TBof tbs_15 _ rfl) rfl ?_
  refine ev_getI (pc1 := 84) (ci := 2) (k := 0) (TBof tbs_15 _ rfl) rfl (fldof mo_15 fl_2_36) hS.lt0 hS.sh nk_2_0 fi_2_0 ?_
  refine ev_iconst (pc1 := 85) (x := 0) (by decide) (TBof tbs_15 _ rfl) rfl ?_
  refine ev_iastore (pc1 := 86) (n := 16) (TBof tbs_15 _ rfl) rfl (hS.lt (j := 6) (by decide)) hS.a6 H.1 ?_
  replace H := H.2
  generalize e2 : up2 (up2 M1 (S + 5) ((M1 S 0).toNatClampNeg) v5) (S + 6) (((up2 M1 (S + 5) ((M1 S 0).toNatClampNeg) v5) S 0).toNatClampNeg) 0 = M2
  replace H := H M2 e2.symm
  refine ev_aload_n (pc1 := 87) rfl rfl (TBof tbs_15 _ rfl) rfl ?_
  refine ev_dup (pc1 := 88) rfl (TBof tbs_15 _ rfl) rfl ?_
  refine ev_getI (pc1 := 91) (ci := 2) (k := 0) (TBof tbs_15 _ rfl) rfl (fldof mo_15 fl_2_36) hS.lt0 hS.sh nk_2_0 fi_2_0 ?_
  refine ev_iconst (pc1 := 92) (x := 1) (by decide) (TBof tbs_15 _ rfl) rfl ?_
  refine ev_iadd (pc1 := 93) (TBof tbs_15 _ rfl) rfl ?_
  refine ev_putI (pc1 := 96) (ci := 2) (k := 0) (TBof tbs_15 _ rfl) rfl (fldof mo_15 fl_2_36) hS.lt0 hS.sh nk_2_0 rfl rfl ?_
  exact ev_return (TBof tbs_15 _ rfl) rt_15 ⟨rfl, H⟩
set_option maxRecDepth 100000 in
theorem R_X2_changeBottoms_0 {d : Nat} {S : Nat} {v1 v2 : Int32} {M : Im} {h : Hm} {D : Dm} {Q : Im → Hm → Dm → Prop} (hS : St S) (H : vp_in v1 16 ∧ (EvV d nX2_changeBottoms 9 [(0, .ref S), (1, .int v1), (2, .int v2), (3, .int 0)] [] (up2 M (S + 5) (v1.toNatClampNeg) v2) h D Q)) : EvV d nX2_changeBottoms 0 [(0, .ref S), (1, .int v1), (2, .int v2)] [] M h D Q := by
  refine ev_aload_n (pc1 := 1) rfl rfl (TBof tbs_16 _ rfl) rfl ?_
  refine ev_getP (pc1 := 4) (ci := 2) (k := 11) (a := (S + 5)) (TBof tbs_16 _ rfl) rfl (fldof mo_16 fl_2_24) hS.lt0 hS.sh nk_2_11 fp_2_11 hS.n28 hS.p11 ?_
  refine ev_iload_n (pc1 := 5) rfl (TBof tbs_16 _ rfl) rfl ?_
  refine ev_iload_n (pc1 := 6) rfl (TBof tbs_16 _ rfl) rfl ?_
  refine ev_iastore (pc1 := 7) (n := 16) (TBof tbs_16 _ rfl) rfl (hS.lt (j := 5) (by decide)) hS.a5 H.1 ?_
  replace H := H.2
  refine ev_iconst (pc1 := 8) (x := 0) (by decide) (TBof tbs_16 _ rfl) rfl ?_
  refine ev_istore_n (pc1 := 9) (L1 := [(3, .int 0), (0, .ref S), (1, .int v1), (2, .int v2)]) (by rw [ml_16]; decide) rfl (TBof tbs_16 _ rfl) rfl ?_
  exact ev_le [1, 2, 3, 0] rfl rfl H
set_option maxRecDepth 100000 in
theorem R_X2_changeBottoms_9 {d : Nat} {S : Nat} {v1 v2 v3 : Int32} {M : Im} {h : Hm} {D : Dm} {Q : Im → Hm → Dm → Prop} (hS : St S) (H : ((12 ≤ v3) → (Q M h D)) ∧ (¬ (12 ≤ v3) → (vp_in v3 12 ∧ (((¬ ((M (S + 7) (v3.toNatClampNeg)) = v1)) → (EvV d nX2_changeBottoms 9 [(0, .ref S), (1, .int v1), (2, .int v2), (3, .int (v3 + 1))] [] M h D Q)) ∧ (¬ (¬ ((M (S + 7) (v3.toNatClampNeg)) = v1)) → (vp_in v3 12 ∧ ((((M (S + 8) (v3.toNatClampNeg)) ≤ v2) → (EvV d nX2_changeBottoms 9 [(0, .ref S), (1, .int v1), (2, .int v2), (3, .int (v3 + 1))] [] M h D Q)) ∧ (¬ ((M (S + 8) (v3.toNatClampNeg)) ≤ v2) → (vp_in v3 12 ∧ (EvV d nX2_changeBottoms 9 [(0, .ref S), (1, .int v1), (2, .int v2), (3, .int (v3 + 1))] [] (up2 M (S + 8) (v3.toNatClampNeg) v2) h D Q)))))))))) : EvV d nX2_changeBottoms 9 [(0, .ref S), (1, .int v1), (2, .int v2), (3, .int v3)] [] M h D Q := by
  refine ev_iload_n (pc1 := 10) rfl (TBof tbs_16 _ rfl) rfl ?_
  refine ev_bipush (pc1 := 12) (x := 12) (by decide) (TBof tbs_16 _ rfl) rfl ?_
  refine ev_icmp (pc1 := 15) (t := 48) (TBof tbs_16 _ rfl) (by decide) rfl (fun c1 => ?_) (fun c1 => ?_)
  · replace H := H.1 c1
    exact ev_return (TBof tbs_16 _ rfl) rt_16 ⟨rfl, H⟩
  · replace H := H.2 c1
    refine ev_aload_n (pc1 := 16) rfl rfl (TBof tbs_16 _ rfl) rfl ?_
    refine ev_getP (pc1 := 19) (ci := 2) (k := 13) (a := (S + 7)) (TBof tbs_16 _ rfl) rfl (fldof mo_16 fl_2_30) hS.lt0 hS.sh nk_2_13 fp_2_13 hS.n28 hS.p13 ?_
    refine ev_iload_n (pc1 := 20) rfl (TBof tbs_16 _ rfl) rfl ?_
    refine ev_iaload (pc1 := 21) (n := 12) (TBof tbs_16 _ rfl) rfl (hS.lt (j := 7) (by decide)) hS.a7 H.1 ?_
    replace H := H.2
    refine ev_iload_n (pc1 := 22) rfl (TBof tbs_16 _ rfl) rfl ?_
    refine ev_icmp (pc1 := 25) (t := 42) (TBof tbs_16 _ rfl) (by decide) rfl (fun c2 => ?_) (fun c2 => ?_)
    · replace H := H.1 c2
      refine ev_iinc (pc1 := 45) (n := 3) (c := 1) (x := v3) (cc := 1) (L1 := [(3, .int (v3 + 1)), (0, .ref S), (1, .int v1), (2, .int v2)]) rfl (by rw [ml_16]; decide) (by decide) rfl (TBof tbs_16 _ rfl) rfl ?_
      refine ev_goto (pc1 := 9) (TBof tbs_16 _ rfl) (by decide) ?_
      exact ev_le [1, 2, 3, 0] rfl rfl H
    · replace H := H.2 c2
      refine ev_aload_n (pc1 := 26) rfl rfl (TBof tbs_16 _ rfl) rfl ?_
      refine ev_getP (pc1 := 29) (ci := 2) (k := 14) (a := (S + 8)) (TBof tbs_16 _ rfl) rfl (fldof mo_16 fl_2_33) hS.lt0 hS.sh nk_2_14 fp_2_14 hS.n28 hS.p14 ?_
      refine ev_iload_n (pc1 := 30) rfl (TBof tbs_16 _ rfl) rfl ?_
      refine ev_iaload (pc1 := 31) (n := 12) (TBof tbs_16 _ rfl) rfl (hS.lt (j := 8) (by decide)) hS.a8 H.1 ?_
      replace H := H.2
      refine ev_iload_n (pc1 := 32) rfl (TBof tbs_16 _ rfl) rfl ?_
      refine ev_icmp (pc1 := 35) (t := 42) (TBof tbs_16 _ rfl) (by decide) rfl (fun c3 => ?_) (fun c3 => ?_)
      · replace H := H.1 c3
        refine ev_iinc (pc1 := 45) (n := 3) (c := 1) (x := v3) (cc := 1) (L1 := [(3, .int (v3 + 1)), (0, .ref S), (1, .int v1), (2, .int v2)]) rfl (by rw [ml_16]; decide) (by decide) rfl (TBof tbs_16 _ rfl) rfl ?_
        refine ev_goto (pc1 := 9) (TBof tbs_16 _ rfl) (by decide) ?_
        exact ev_le [1, 2, 3, 0] rfl rfl H
      · replace H := H.2 c3
        refine ev_aload_n (pc1 := 36) rfl rfl (TBof tbs_16 _ rfl) rfl ?_
        refine ev_getP (pc1 := 39) (ci := 2) (k := 14) (a := (S + 8)) (TBof tbs_16 _ rfl) rfl (fldof mo_16 fl_2_33) hS.lt0 hS.sh nk_2_14 fp_2_14 hS.n28 hS.p14 ?_
        refine ev_iload_n (pc1 := 40) rfl (TBof tbs_16 _ rfl) rfl ?_
        refine ev_iload_n (pc1 := 41) rfl (TBof tbs_16 _ rfl) rfl ?_
        refine ev_iastore (pc1 := 42) (n := 12) (TBof tbs_16 _ rfl) rfl (hS.lt (j := 8) (by decide)) hS.a8 H.1 ?_
        replace H := H.2
        refine ev_iinc (pc1 := 45) (n := 3) (c := 1) (x := v3) (cc := 1) (L1 := [(3, .int (v3 + 1)), (0, .ref S), (1, .int v1), (2, .int v2)]) rfl (by rw [ml_16]; decide) (by decide) rfl (TBof tbs_16 _ rfl) rfl ?_
        refine ev_goto (pc1 := 9) (TBof tbs_16 _ rfl) (by decide) ?_
        exact ev_le [1, 2, 3, 0] rfl rfl H
set_option maxRecDepth 100000 in
theorem R_X2_putBack_0 {d : Nat} {S : Nat} {M : Im} {h : Hm} {D : Dm} {Q : Im → Hm → Dm → Prop} (hS : St S) (H : EvV d nX2_putBack 32 [(0, .ref S), (1, .int 0)] [] (up2 (up2 (up2 (up2 (up2 (up2 M S 1 0) S 2 0) S 3 0) S 4 0) S 5 0) S 6 0) h D Q) : EvV d nX2_putBack 0 [(0, .ref S)] [] M h D Q := by
  refine ev_aload_n (pc1 := 1) rfl rfl (TBof tbs_17 _ rfl) rfl ?_
  refine ev_iconst (pc1 := 2) (x := 0) (by decide) (TBof tbs_17 _ rfl) rfl ?_
  refine ev_putZ (pc1 := 5) (ci := 2) (k := 1) (TBof tbs_17 _ rfl) rfl (fldof mo_17 fl_2_40) hS.lt0 hS.sh nk_2_1 rfl rfl (Or.inl rfl) ?_
  refine ev_aload_n (pc1 := 6) rfl rfl (TBof tbs_17 _ rfl) rfl ?_
  refine ev_iconst (pc1 := 7) (x := 0) (by decide) (TBof tbs_17 _ rfl) rfl ?_
  refine ev_putI (pc1 := 10) (ci := 2) (k := 2) (TBof tbs_17 _ rfl) rfl (fldof mo_17 fl_2_44) hS.lt0 hS.sh nk_2_2 rfl rfl ?_
  refine ev_aload_n (pc1 := 11) rfl rfl (TBof tbs_17 _ rfl) rfl ?_
  refine ev_iconst (pc1 := 12) (x := 0) (by decide) (TBof tbs_17 _ rfl) rfl ?_
  refine ev_putI (pc1 := 15) (ci := 2) (k := 3) (TBof tbs_17 _ rfl) rfl (fldof mo_17 fl_2_47) hS.lt0 hS.sh nk_2_3 rfl rfl ?_
  refine ev_aload_n (pc1 := 16) rfl rfl (TBof tbs_17 _ rfl) rfl ?_
  refine ev_iconst (pc1 := 17) (x := 0) (by decide) (TBof tbs_17 _ rfl) rfl ?_
  refine ev_putI (pc1 := 20) (ci := 2) (k := 4) (TBof tbs_17 _ rfl) rfl (fldof mo_17 fl_2_50) hS.lt0 hS.sh nk_2_4 rfl rfl ?_
  refine ev_aload_n (pc1 := 21) rfl rfl (TBof tbs_17 _ rfl) rfl ?_
  refine ev_iconst (pc1 := 22) (x := 0) (by decide) (TBof tbs_17 _ rfl) rfl ?_
  refine ev_putI (pc1 := 25) (ci := 2) (k := 5) (TBof tbs_17 _ rfl) rfl (fldof mo_17 fl_2_53) hS.lt0 hS.sh nk_2_5 rfl rfl ?_
  refine ev_aload_n (pc1 := 26) rfl rfl (TBof tbs_17 _ rfl) rfl ?_
  refine ev_iconst (pc1 := 27) (x := 0) (by decide) (TBof tbs_17 _ rfl) rfl ?_
  refine ev_putI (pc1 := 30) (ci := 2) (k := 6) (TBof tbs_17 _ rfl) rfl (fldof mo_17 fl_2_56) hS.lt0 hS.sh nk_2_6 rfl rfl ?_
  refine ev_iconst (pc1 := 31) (x := 0) (by decide) (TBof tbs_17 _ rfl) rfl ?_
  refine ev_istore_n (pc1 := 32) (L1 := [(1, .int 0), (0, .ref S)]) (by rw [ml_17]; decide) rfl (TBof tbs_17 _ rfl) rfl ?_
  exact ev_le [1, 0] rfl rfl H
set_option maxRecDepth 100000 in
theorem R_X2_putBack_32 {d : Nat} {S : Nat} {v1 : Int32} {M : Im} {h : Hm} {D : Dm} {Q : Im → Hm → Dm → Prop} (hS : St S) (H : ((16 ≤ v1) → (Q M h D)) ∧ (¬ (16 ≤ v1) → (vp_in v1 16 ∧ (EvV d nX2_putBack 32 [(0, .ref S), (1, .int (v1 + 1))] [] (up2 M (S + 6) (v1.toNatClampNeg) 0) h D Q)))) : EvV d nX2_putBack 32 [(0, .ref S), (1, .int v1)] [] M h D Q := by
  refine ev_iload_n (pc1 := 33) rfl (TBof tbs_17 _ rfl) rfl ?_
  refine ev_bipush (pc1 := 35) (x := 16) (by decide) (TBof tbs_17 _ rfl) rfl ?_
  refine ev_icmp (pc1 := 38) (t := 51) (TBof tbs_17 _ rfl) (by decide) rfl (fun c1 => ?_) (fun c1 => ?_)
  · replace H := H.1 c1
    exact ev_return (TBof tbs_17 _ rfl) rt_17 ⟨rfl, H⟩
  · replace H := H.2 c1
    refine ev_aload_n (pc1 := 39) rfl rfl (TBof tbs_17 _ rfl) rfl ?_
    refine ev_getP (pc1 := 42) (ci := 2) (k := 12) (a := (S + 6)) (TBof tbs_17 _ rfl) rfl (fldof mo_17 fl_2_27) hS.lt0 hS.sh nk_2_12 fp_2_12 hS.n28 hS.p12 ?_
    refine ev_iload_n (pc1 := 43) rfl (TBof tbs_17 _ rfl) rfl ?_
    refine ev_iconst (pc1 := 44) (x := 0) (by decide) (TBof tbs_17 _ rfl) rfl ?_
    refine ev_iastore (pc1 := 45) (n := 16) (TBof tbs_17 _ rfl) rfl (hS.lt (j := 6) (by decide)) hS.a6 H.1 ?_
    replace H := H.2
    refine ev_iinc (pc1 := 48) (n := 1) (c := 1) (x := v1) (cc := 1) (L1 := [(1, .int (v1 + 1)), (0, .ref S)]) rfl (by rw [ml_17]; decide) (by decide) rfl (TBof tbs_17 _ rfl) rfl ?_
    refine ev_goto (pc1 := 32) (TBof tbs_17 _ rfl) (by decide) ?_
    exact ev_le [1, 0] rfl rfl H
set_option maxRecDepth 100000 in
theorem R_X2_isThere_0 {d : Nat} {S : Nat} {v1 : Int32} {M : Im} {h : Hm} {D : Dm} {Q : Int32 → Im → Hm → Dm → Prop} (hS : St S) (H : ((v1 < 0) → (Q 0 M h D)) ∧ (¬ (v1 < 0) → ((((M S 0) ≤ v1) → (Q 0 M h D)) ∧ (¬ ((M S 0) ≤ v1) → (Q 1 M h D))))) : EvI d nX2_isThere 0 [(0, .ref S), (1, .int v1)] [] M h D Q := by
  refine ev_iload_n (pc1 := 1) rfl (TBof tbs_18 _ rfl) rfl ?_
  refine ev_if (pc1 := 4) (t := 16) (TBof tbs_18 _ rfl) (by decide) rfl (fun c1 => ?_) (fun c1 => ?_)
  · replace H := H.1 c1
    refine ev_iconst (pc1 := 17) (x := 0) (by decide) (TBof tbs_18 _ rfl) rfl ?_
    exact ev_ireturn (TBof tbs_18 _ rfl) (retI_z rt_18 (Or.inl rfl)) ⟨_, rfl, H⟩
  · replace H := H.2 c1
    refine ev_iload_n (pc1 := 5) rfl (TBof tbs_18 _ rfl) rfl ?_
    refine ev_aload_n (pc1 := 6) rfl rfl (TBof tbs_18 _ rfl) rfl ?_
    refine ev_getI (pc1 := 9) (ci := 2) (k := 0) (TBof tbs_18 _ rfl) rfl (fldof mo_18 fl_2_36) hS.lt0 hS.sh nk_2_0 fi_2_0 ?_
    refine ev_icmp (pc1 := 12) (t := 16) (TBof tbs_18 _ rfl) (by decide) rfl (fun c2 => ?_) (fun c2 => ?_)
    · replace H := H.1 c2
      refine ev_iconst (pc1 := 17) (x := 0) (by decide) (TBof tbs_18 _ rfl) rfl ?_
      exact ev_ireturn (TBof tbs_18 _ rfl) (retI_z rt_18 (Or.inl rfl)) ⟨_, rfl, H⟩
    · replace H := H.2 c2
      refine ev_iconst (pc1 := 13) (x := 1) (by decide) (TBof tbs_18 _ rfl) rfl ?_
      refine ev_goto (pc1 := 17) (TBof tbs_18 _ rfl) (by decide) ?_
      exact ev_ireturn (TBof tbs_18 _ rfl) (retI_z rt_18 (Or.inr rfl)) ⟨_, rfl, H⟩
set_option maxRecDepth 100000 in
theorem R_X2_isOpen_0 {d : Nat} {S : Nat} {v1 : Int32} {M : Im} {h : Hm} {D : Dm} {Q : Int32 → Im → Hm → Dm → Prop} (hS : St S) (H : ((((M S 4) &&& (1 <<< (v1 &&& 31))) = 0) → (Q 0 M h D)) ∧ (¬ (((M S 4) &&& (1 <<< (v1 &&& 31))) = 0) → (Q 1 M h D))) : EvI d nX2_isOpen 0 [(0, .ref S), (1, .int v1)] [] M h D Q := by
  refine ev_aload_n (pc1 := 1) rfl rfl (TBof tbs_19 _ rfl) rfl ?_
  refine ev_getI (pc1 := 4) (ci := 2) (k := 4) (TBof tbs_19 _ rfl) rfl (fldof mo_19 fl_2_50) hS.lt0 hS.sh nk_2_4 fi_2_4 ?_
  refine ev_iconst (pc1 := 5) (x := 1) (by decide) (TBof tbs_19 _ rfl) rfl ?_
  refine ev_iload_n (pc1 := 6) rfl (TBof tbs_19 _ rfl) rfl ?_
  refine ev_ishl (pc1 := 7) (TBof tbs_19 _ rfl) rfl ?_
  refine ev_iand (pc1 := 8) (TBof tbs_19 _ rfl) rfl ?_
  refine ev_if (pc1 := 11) (t := 15) (TBof tbs_19 _ rfl) (by decide) rfl (fun c1 => ?_) (fun c1 => ?_)
  · replace H := H.1 c1
    refine ev_iconst (pc1 := 16) (x := 0) (by decide) (TBof tbs_19 _ rfl) rfl ?_
    exact ev_ireturn (TBof tbs_19 _ rfl) (retI_z rt_19 (Or.inl rfl)) ⟨_, rfl, H⟩
  · replace H := H.2 c1
    refine ev_iconst (pc1 := 12) (x := 1) (by decide) (TBof tbs_19 _ rfl) rfl ?_
    refine ev_goto (pc1 := 16) (TBof tbs_19 _ rfl) (by decide) ?_
    exact ev_ireturn (TBof tbs_19 _ rfl) (retI_z rt_19 (Or.inr rfl)) ⟨_, rfl, H⟩
set_option maxRecDepth 100000 in
theorem R_X2_isInHand_0 {d : Nat} {S : Nat} {v1 : Int32} {M : Im} {h : Hm} {D : Dm} {Q : Int32 → Im → Hm → Dm → Prop} (hS : St S) (H : ((((M S 6) &&& (1 <<< (v1 &&& 31))) = 0) → (Q 0 M h D)) ∧ (¬ (((M S 6) &&& (1 <<< (v1 &&& 31))) = 0) → (Q 1 M h D))) : EvI d nX2_isInHand 0 [(0, .ref S), (1, .int v1)] [] M h D Q := by
  refine ev_aload_n (pc1 := 1) rfl rfl (TBof tbs_20 _ rfl) rfl ?_
  refine ev_getI (pc1 := 4) (ci := 2) (k := 6) (TBof tbs_20 _ rfl) rfl (fldof mo_20 fl_2_56) hS.lt0 hS.sh nk_2_6 fi_2_6 ?_
  refine ev_iconst (pc1 := 5) (x := 1) (by decide) (TBof tbs_20 _ rfl) rfl ?_
  refine ev_iload_n (pc1 := 6) rfl (TBof tbs_20 _ rfl) rfl ?_
  refine ev_ishl (pc1 := 7) (TBof tbs_20 _ rfl) rfl ?_
  refine ev_iand (pc1 := 8) (TBof tbs_20 _ rfl) rfl ?_
  refine ev_if (pc1 := 11) (t := 15) (TBof tbs_20 _ rfl) (by decide) rfl (fun c1 => ?_) (fun c1 => ?_)
  · replace H := H.1 c1
    refine ev_iconst (pc1 := 16) (x := 0) (by decide) (TBof tbs_20 _ rfl) rfl ?_
    exact ev_ireturn (TBof tbs_20 _ rfl) (retI_z rt_20 (Or.inl rfl)) ⟨_, rfl, H⟩
  · replace H := H.2 c1
    refine ev_iconst (pc1 := 12) (x := 1) (by decide) (TBof tbs_20 _ rfl) rfl ?_
    refine ev_goto (pc1 := 16) (TBof tbs_20 _ rfl) (by decide) ?_
    exact ev_ireturn (TBof tbs_20 _ rfl) (retI_z rt_20 (Or.inr rfl)) ⟨_, rfl, H⟩
set_option maxRecDepth 100000 in
theorem R_X2_isReached_0 {d : Nat} {S : Nat} {v1 : Int32} {M : Im} {h : Hm} {D : Dm} {Q : Int32 → Im → Hm → Dm → Prop} (hS : St S) (H : vp_in v1 16 ∧ (EvI d nX2_isReached 9 [(0, .ref S), (1, .int v1), (2, .int (M (S + 1) (v1.toNatClampNeg))), (3, .int 0)] [] M h D Q)) : EvI d nX2_isReached 0 [(0, .ref S), (1, .int v1)] [] M h D Q := by
  refine ev_aload_n (pc1 := 1) rfl rfl (TBof tbs_21 _ rfl) rfl ?_
  refine ev_getP (pc1 := 4) (ci := 2) (k := 7) (a := (S + 1)) (TBof tbs_21 _ rfl) rfl (fldof mo_21 fl_2_9) hS.lt0 hS.sh nk_2_7 fp_2_7 hS.n28 hS.p7 ?_
  refine ev_iload_n (pc1 := 5) rfl (TBof tbs_21 _ rfl) rfl ?_
  refine ev_iaload (pc1 := 6) (n := 16) (TBof tbs_21 _ rfl) rfl (hS.lt (j := 1) (by decide)) hS.a1 H.1 ?_
  replace H := H.2
  refine ev_istore_n (pc1 := 7) (L1 := [(2, .int (M (S + 1) (v1.toNatClampNeg))), (0, .ref S), (1, .int v1)]) (by rw [ml_21]; decide) rfl (TBof tbs_21 _ rfl) rfl ?_
  refine ev_iconst (pc1 := 8) (x := 0) (by decide) (TBof tbs_21 _ rfl) rfl ?_
  refine ev_istore_n (pc1 := 9) (L1 := [(3, .int 0), (2, .int (M (S + 1) (v1.toNatClampNeg))), (0, .ref S), (1, .int v1)]) (by rw [ml_21]; decide) rfl (TBof tbs_21 _ rfl) rfl ?_
  exact ev_le [2, 3, 1, 0] rfl rfl H
set_option maxRecDepth 100000 in
theorem R_X2_isReached_9 {d : Nat} {S : Nat} {v1 v2 v3 : Int32} {M : Im} {h : Hm} {D : Dm} {Q : Int32 → Im → Hm → Dm → Prop} (hS : St S) (H : ((16 ≤ v3) → (Q 1 M h D)) ∧ (¬ (16 ≤ v3) → (CI d nX2_isThere [.ref S, .int v2] M h D (fun x2 M2 h2 D2 => ((x2 = 0) → (Q 1 M2 h2 D2)) ∧ (¬ (x2 = 0) → (CI d nX2_isOpen [.ref S, .int v2] M2 h2 D2 (fun x4 M4 h4 D4 => ((¬ (x4 = 0)) → (vp_in v2 16 ∧ (EvI d nX2_isReached 9 [(0, .ref S), (1, .int v1), (2, .int (M4 (S + 1) (v2.toNatClampNeg))), (3, .int (v3 + 1))] [] M4 h4 D4 Q))) ∧ (¬ (¬ (x4 = 0)) → (Q 0 M4 h4 D4))))))))) : EvI d nX2_isReached 9 [(0, .ref S), (1, .int v1), (2, .int v2), (3, .int v3)] [] M h D Q := by
  refine ev_iload_n (pc1 := 10) rfl (TBof tbs_21 _ rfl) rfl ?_
  refine ev_bipush (pc1 := 12) (x := 16) (by decide) (TBof tbs_21 _ rfl) rfl ?_
  refine ev_icmp (pc1 := 15) (t := 46) (TBof tbs_21 _ rfl) (by decide) rfl (fun c1 => ?_) (fun c1 => ?_)
  · replace H := H.1 c1
    refine ev_iconst (pc1 := 47) (x := 1) (by decide) (TBof tbs_21 _ rfl) rfl ?_
    exact ev_ireturn (TBof tbs_21 _ rfl) (retI_z rt_21 (Or.inr rfl)) ⟨_, rfl, H⟩
  · replace H := H.2 c1
    refine ev_aload_n (pc1 := 16) rfl rfl (TBof tbs_21 _ rfl) rfl ?_
    refine ev_iload_n (pc1 := 17) rfl (TBof tbs_21 _ rfl) rfl ?_
    refine ev_callvI (pc1 := 20) (as := [.int v2]) (r := []) (TBof tbs_21 _ rfl) rfl (lnkof mo_21 ln_2_65) rfl na_18 hS.lt0 (hS.sh.trans (by rw [mo_18])) (Nat.le_of_ble_eq_true rfl) H (fun x2 M2 h2 D2 H => ?_)
    refine ev_if (pc1 := 23) (t := 46) (TBof tbs_21 _ rfl) (by decide) rfl (fun c3 => ?_) (fun c3 => ?_)
    · replace H := H.1 c3
      refine ev_iconst (pc1 := 47) (x := 1) (by decide) (TBof tbs_21 _ rfl) rfl ?_
      exact ev_ireturn (TBof tbs_21 _ rfl) (retI_z rt_21 (Or.inr rfl)) ⟨_, rfl, H⟩
    · replace H := H.2 c3
      refine ev_aload_n (pc1 := 24) rfl rfl (TBof tbs_21 _ rfl) rfl ?_
      refine ev_iload_n (pc1 := 25) rfl (TBof tbs_21 _ rfl) rfl ?_
      refine ev_callvI (pc1 := 28) (as := [.int v2]) (r := []) (TBof tbs_21 _ rfl) rfl (lnkof mo_21 ln_2_69) rfl na_19 hS.lt0 (hS.sh.trans (by rw [mo_19])) (Nat.le_of_ble_eq_true rfl) H (fun x4 M4 h4 D4 H => ?_)
      refine ev_if (pc1 := 31) (t := 33) (TBof tbs_21 _ rfl) (by decide) rfl (fun c5 => ?_) (fun c5 => ?_)
      · replace H := H.1 c5
        refine ev_aload_n (pc1 := 34) rfl rfl (TBof tbs_21 _ rfl) rfl ?_
        refine ev_getP (pc1 := 37) (ci := 2) (k := 7) (a := (S + 1)) (TBof tbs_21 _ rfl) rfl (fldof mo_21 fl_2_9) hS.lt0 hS.sh nk_2_7 fp_2_7 hS.n28 hS.p7 ?_
        refine ev_iload_n (pc1 := 38) rfl (TBof tbs_21 _ rfl) rfl ?_
        refine ev_iaload (pc1 := 39) (n := 16) (TBof tbs_21 _ rfl) rfl (hS.lt (j := 1) (by decide)) hS.a1 H.1 ?_
        replace H := H.2
        refine ev_istore_n (pc1 := 40) (L1 := [(2, .int (M4 (S + 1) (v2.toNatClampNeg))), (0, .ref S), (1, .int v1), (3, .int v3)]) (by rw [ml_21]; decide) rfl (TBof tbs_21 _ rfl) rfl ?_
        refine ev_iinc (pc1 := 43) (n := 3) (c := 1) (x := v3) (cc := 1) (L1 := [(3, .int (v3 + 1)), (2, .int (M4 (S + 1) (v2.toNatClampNeg))), (0, .ref S), (1, .int v1)]) rfl (by rw [ml_21]; decide) (by decide) rfl (TBof tbs_21 _ rfl) rfl ?_
        refine ev_goto (pc1 := 9) (TBof tbs_21 _ rfl) (by decide) ?_
        exact ev_le [2, 3, 1, 0] rfl rfl H
      · replace H := H.2 c5
        refine ev_iconst (pc1 := 32) (x := 0) (by decide) (TBof tbs_21 _ rfl) rfl ?_
        exact ev_ireturn (TBof tbs_21 _ rfl) (retI_z rt_21 (Or.inl rfl)) ⟨_, rfl, H⟩
set_option maxRecDepth 100000 in
theorem R_X2_canOpen_0 {d : Nat} {S : Nat} {v1 : Int32} {M : Im} {h : Hm} {D : Dm} {Q : Int32 → Im → Hm → Dm → Prop} (hS : St S) (H : CI d nX2_isOpen [.ref S, .int v1] M h D (fun x1 M1 h1 D1 => ((¬ (x1 = 0)) → (Q 0 M1 h1 D1)) ∧ (¬ (¬ (x1 = 0)) → (CI d nX2_isReached [.ref S, .int v1] M1 h1 D1 (fun x3 M3 h3 D3 => ((x3 = 0) → (Q 0 M3 h3 D3)) ∧ (¬ (x3 = 0) → (CI d nX2_isLetByHold [.ref S, .int v1] M3 h3 D3 (fun x5 M5 h5 D5 => ((x5 = 0) → (Q 0 M5 h5 D5)) ∧ (¬ (x5 = 0) → (Q 1 M5 h5 D5)))))))))) : EvI d nX2_canOpen 0 [(0, .ref S), (1, .int v1)] [] M h D Q := by
  refine ev_aload_n (pc1 := 1) rfl rfl (TBof tbs_22 _ rfl) rfl ?_
  refine ev_iload_n (pc1 := 2) rfl (TBof tbs_22 _ rfl) rfl ?_
  refine ev_callvI (pc1 := 5) (as := [.int v1]) (r := []) (TBof tbs_22 _ rfl) rfl (lnkof mo_22 ln_2_69) rfl na_19 hS.lt0 (hS.sh.trans (by rw [mo_19])) (Nat.le_of_ble_eq_true rfl) H (fun x1 M1 h1 D1 H => ?_)
  refine ev_if (pc1 := 8) (t := 28) (TBof tbs_22 _ rfl) (by decide) rfl (fun c2 => ?_) (fun c2 => ?_)
  · replace H := H.1 c2
    refine ev_iconst (pc1 := 29) (x := 0) (by decide) (TBof tbs_22 _ rfl) rfl ?_
    exact ev_ireturn (TBof tbs_22 _ rfl) (retI_z rt_22 (Or.inl rfl)) ⟨_, rfl, H⟩
  · replace H := H.2 c2
    refine ev_aload_n (pc1 := 9) rfl rfl (TBof tbs_22 _ rfl) rfl ?_
    refine ev_iload_n (pc1 := 10) rfl (TBof tbs_22 _ rfl) rfl ?_
    refine ev_callvI (pc1 := 13) (as := [.int v1]) (r := []) (TBof tbs_22 _ rfl) rfl (lnkof mo_22 ln_2_72) rfl na_21 hS.lt0 (hS.sh.trans (by rw [mo_21])) (Nat.le_of_ble_eq_true rfl) H (fun x3 M3 h3 D3 H => ?_)
    refine ev_if (pc1 := 16) (t := 28) (TBof tbs_22 _ rfl) (by decide) rfl (fun c4 => ?_) (fun c4 => ?_)
    · replace H := H.1 c4
      refine ev_iconst (pc1 := 29) (x := 0) (by decide) (TBof tbs_22 _ rfl) rfl ?_
      exact ev_ireturn (TBof tbs_22 _ rfl) (retI_z rt_22 (Or.inl rfl)) ⟨_, rfl, H⟩
    · replace H := H.2 c4
      refine ev_aload_n (pc1 := 17) rfl rfl (TBof tbs_22 _ rfl) rfl ?_
      refine ev_iload_n (pc1 := 18) rfl (TBof tbs_22 _ rfl) rfl ?_
      refine ev_callvI (pc1 := 21) (as := [.int v1]) (r := []) (TBof tbs_22 _ rfl) rfl (lnkof mo_22 ln_2_75) rfl na_23 hS.lt0 (hS.sh.trans (by rw [mo_23])) (Nat.le_of_ble_eq_true rfl) H (fun x5 M5 h5 D5 H => ?_)
      refine ev_if (pc1 := 24) (t := 28) (TBof tbs_22 _ rfl) (by decide) rfl (fun c6 => ?_) (fun c6 => ?_)
      · replace H := H.1 c6
        refine ev_iconst (pc1 := 29) (x := 0) (by decide) (TBof tbs_22 _ rfl) rfl ?_
        exact ev_ireturn (TBof tbs_22 _ rfl) (retI_z rt_22 (Or.inl rfl)) ⟨_, rfl, H⟩
      · replace H := H.2 c6
        refine ev_iconst (pc1 := 25) (x := 1) (by decide) (TBof tbs_22 _ rfl) rfl ?_
        refine ev_goto (pc1 := 29) (TBof tbs_22 _ rfl) (by decide) ?_
        exact ev_ireturn (TBof tbs_22 _ rfl) (retI_z rt_22 (Or.inr rfl)) ⟨_, rfl, H⟩
set_option maxRecDepth 100000 in
theorem R_X2_isLetByHold_0 {d : Nat} {S : Nat} {v1 : Int32} {M : Im} {h : Hm} {D : Dm} {Q : Int32 → Im → Hm → Dm → Prop} (hS : St S) (H : vp_in v1 16 ∧ ((((M (S + 2) (v1.toNatClampNeg)) = 1) → (vp_in v1 16 ∧ (CI d nX2_isInHand [.ref S, .int (M (S + 3) (v1.toNatClampNeg))] M h D (fun x1 M1 h1 D1 => (x1 = 0 ∨ x1 = 1) ∧ Q x1 M1 h1 D1)))) ∧ (((M (S + 2) (v1.toNatClampNeg)) = 2) → (vp_in v1 16 ∧ (CI d nX2_isOpen [.ref S, .int (M (S + 3) (v1.toNatClampNeg))] M h D (fun x2 M2 h2 D2 => (x2 = 0 ∨ x2 = 1) ∧ Q x2 M2 h2 D2)))) ∧ (¬ ((M (S + 2) (v1.toNatClampNeg)) = 1) → ¬ ((M (S + 2) (v1.toNatClampNeg)) = 2) → (Q 1 M h D)))) : EvI d nX2_isLetByHold 0 [(0, .ref S), (1, .int v1)] [] M h D Q := by
  refine ev_aload_n (pc1 := 1) rfl rfl (TBof tbs_23 _ rfl) rfl ?_
  refine ev_getP (pc1 := 4) (ci := 2) (k := 8) (a := (S + 2)) (TBof tbs_23 _ rfl) rfl (fldof mo_23 fl_2_15) hS.lt0 hS.sh nk_2_8 fp_2_8 hS.n28 hS.p8 ?_
  refine ev_iload_n (pc1 := 5) rfl (TBof tbs_23 _ rfl) rfl ?_
  refine ev_iaload (pc1 := 6) (n := 16) (TBof tbs_23 _ rfl) rfl (hS.lt (j := 2) (by decide)) hS.a2 H.1 ?_
  replace H := H.2
  by_cases c3_0 : (M (S + 2) (v1.toNatClampNeg)) = 1
  · replace H := H.1 c3_0
    refine ev_lookup (t := 32) (TBof tbs_23 _ rfl) (by decide) (by rw [c3_0]; decide) ?_
    refine ev_aload_n (pc1 := 33) rfl rfl (TBof tbs_23 _ rfl) rfl ?_
    refine ev_aload_n (pc1 := 34) rfl rfl (TBof tbs_23 _ rfl) rfl ?_
    refine ev_getP (pc1 := 37) (ci := 2) (k := 9) (a := (S + 3)) (TBof tbs_23 _ rfl) rfl (fldof mo_23 fl_2_18) hS.lt0 hS.sh nk_2_9 fp_2_9 hS.n28 hS.p9 ?_
    refine ev_iload_n (pc1 := 38) rfl (TBof tbs_23 _ rfl) rfl ?_
    refine ev_iaload (pc1 := 39) (n := 16) (TBof tbs_23 _ rfl) rfl (hS.lt (j := 3) (by decide)) hS.a3 H.1 ?_
    replace H := H.2
    refine ev_callvI (pc1 := 42) (as := [.int (M (S + 3) (v1.toNatClampNeg))]) (r := []) (TBof tbs_23 _ rfl) rfl (lnkof mo_23 ln_2_78) rfl na_20 hS.lt0 (hS.sh.trans (by rw [mo_20])) (Nat.le_of_ble_eq_true rfl) H (fun x1 M1 h1 D1 H => ?_)
    exact ev_ireturn (TBof tbs_23 _ rfl) (retI_z rt_23 H.1) ⟨_, rfl, H.2⟩
  by_cases c3_1 : (M (S + 2) (v1.toNatClampNeg)) = 2
  · replace H := H.2.1 c3_1
    refine ev_lookup (t := 43) (TBof tbs_23 _ rfl) (by decide) (by rw [c3_1]; decide) ?_
    refine ev_aload_n (pc1 := 44) rfl rfl (TBof tbs_23 _ rfl) rfl ?_
    refine ev_aload_n (pc1 := 45) rfl rfl (TBof tbs_23 _ rfl) rfl ?_
    refine ev_getP (pc1 := 48) (ci := 2) (k := 9) (a := (S + 3)) (TBof tbs_23 _ rfl) rfl (fldof mo_23 fl_2_18) hS.lt0 hS.sh nk_2_9 fp_2_9 hS.n28 hS.p9 ?_
    refine ev_iload_n (pc1 := 49) rfl (TBof tbs_23 _ rfl) rfl ?_
    refine ev_iaload (pc1 := 50) (n := 16) (TBof tbs_23 _ rfl) rfl (hS.lt (j := 3) (by decide)) hS.a3 H.1 ?_
    replace H := H.2
    refine ev_callvI (pc1 := 53) (as := [.int (M (S + 3) (v1.toNatClampNeg))]) (r := []) (TBof tbs_23 _ rfl) rfl (lnkof mo_23 ln_2_69) rfl na_19 hS.lt0 (hS.sh.trans (by rw [mo_19])) (Nat.le_of_ble_eq_true rfl) H (fun x2 M2 h2 D2 H => ?_)
    exact ev_ireturn (TBof tbs_23 _ rfl) (retI_z rt_23 H.1) ⟨_, rfl, H.2⟩
  replace H := H.2.2 c3_0 c3_1
  refine ev_lookup (t := 54) (TBof tbs_23 _ rfl) (by decide) (by rw [show (#[(1, 26), (2, 37)] : Array (Int × Int)).toList = [(1, 26), (2, 37)] from rfl, lv_osw (k := 1) c3_0 (by decide), lv_osw (k := 2) c3_1 (by decide), Op.lookupswitch.offset_nil]; decide) ?_
  refine ev_iconst (pc1 := 55) (x := 1) (by decide) (TBof tbs_23 _ rfl) rfl ?_
  exact ev_ireturn (TBof tbs_23 _ rfl) (retI_z rt_23 (Or.inr rfl)) ⟨_, rfl, H⟩
set_option maxRecDepth 100000 in
theorem R_X2_hasBottomLeft_0 {d : Nat} {S : Nat} {v1 : Int32} {M : Im} {h : Hm} {D : Dm} {Q : Int32 → Im → Hm → Dm → Prop} (hS : St S) (H : vp_in v1 16 ∧ (vp_in v1 16 ∧ ((((M (S + 5) (v1.toNatClampNeg)) ≤ (M (S + 6) (v1.toNatClampNeg))) → (Q 0 M h D)) ∧ (¬ ((M (S + 5) (v1.toNatClampNeg)) ≤ (M (S + 6) (v1.toNatClampNeg))) → (Q 1 M h D))))) : EvI d nX2_hasBottomLeft 0 [(0, .ref S), (1, .int v1)] [] M h D Q := by
  refine ev_aload_n (pc1 := 1) rfl rfl (TBof tbs_24 _ rfl) rfl ?_
  refine ev_getP (pc1 := 4) (ci := 2) (k := 12) (a := (S + 6)) (TBof tbs_24 _ rfl) rfl (fldof mo_24 fl_2_27) hS.lt0 hS.sh nk_2_12 fp_2_12 hS.n28 hS.p12 ?_
  refine ev_iload_n (pc1 := 5) rfl (TBof tbs_24 _ rfl) rfl ?_
  refine ev_iaload (pc1 := 6) (n := 16) (TBof tbs_24 _ rfl) rfl (hS.lt (j := 6) (by decide)) hS.a6 H.1 ?_
  replace H := H.2
  refine ev_aload_n (pc1 := 7) rfl rfl (TBof tbs_24 _ rfl) rfl ?_
  refine ev_getP (pc1 := 10) (ci := 2) (k := 11) (a := (S + 5)) (TBof tbs_24 _ rfl) rfl (fldof mo_24 fl_2_24) hS.lt0 hS.sh nk_2_11 fp_2_11 hS.n28 hS.p11 ?_
  refine ev_iload_n (pc1 := 11) rfl (TBof tbs_24 _ rfl) rfl ?_
  refine ev_iaload (pc1 := 12) (n := 16) (TBof tbs_24 _ rfl) rfl (hS.lt (j := 5) (by decide)) hS.a5 H.1 ?_
  replace H := H.2
  refine ev_icmp (pc1 := 15) (t := 19) (TBof tbs_24 _ rfl) (by decide) rfl (fun c1 => ?_) (fun c1 => ?_)
  · replace H := H.1 c1
    refine ev_iconst (pc1 := 20) (x := 0) (by decide) (TBof tbs_24 _ rfl) rfl ?_
    exact ev_ireturn (TBof tbs_24 _ rfl) (retI_z rt_24 (Or.inl rfl)) ⟨_, rfl, H⟩
  · replace H := H.2 c1
    refine ev_iconst (pc1 := 16) (x := 1) (by decide) (TBof tbs_24 _ rfl) rfl ?_
    refine ev_goto (pc1 := 20) (TBof tbs_24 _ rfl) (by decide) ?_
    exact ev_ireturn (TBof tbs_24 _ rfl) (retI_z rt_24 (Or.inr rfl)) ⟨_, rfl, H⟩
set_option maxRecDepth 100000 in
theorem R_X2_canLift_0 {d : Nat} {S : Nat} {v1 : Int32} {M : Im} {h : Hm} {D : Dm} {Q : Int32 → Im → Hm → Dm → Prop} (hS : St S) (H : CI d nX2_hasBottomLeft [.ref S, .int v1] M h D (fun x1 M1 h1 D1 => ((x1 = 0) → (Q 0 M1 h1 D1)) ∧ (¬ (x1 = 0) → (CI d nX2_isOpen [.ref S, .int v1] M1 h1 D1 (fun x3 M3 h3 D3 => ((x3 = 0) → (Q 0 M3 h3 D3)) ∧ (¬ (x3 = 0) → (CI d nX2_isReached [.ref S, .int v1] M3 h3 D3 (fun x5 M5 h5 D5 => ((x5 = 0) → (Q 0 M5 h5 D5)) ∧ (¬ (x5 = 0) → (CI d nX2_isInHand [.ref S, .int 10] M5 h5 D5 (fun x7 M7 h7 D7 => ((x7 = 0) → (Q 0 M7 h7 D7)) ∧ (¬ (x7 = 0) → (Q 1 M7 h7 D7))))))))))))) : EvI d nX2_canLift 0 [(0, .ref S), (1, .int v1)] [] M h D Q := by
  refine ev_aload_n (pc1 := 1) rfl rfl (TBof tbs_25 _ rfl) rfl ?_
  refine ev_iload_n (pc1 := 2) rfl (TBof tbs_25 _ rfl) rfl ?_
  refine ev_callvI (pc1 := 5) (as := [.int v1]) (r := []) (TBof tbs_25 _ rfl) rfl (lnkof mo_25 ln_2_81) rfl na_24 hS.lt0 (hS.sh.trans (by rw [mo_24])) (Nat.le_of_ble_eq_true rfl) H (fun x1 M1 h1 D1 H => ?_)
  refine ev_if (pc1 := 8) (t := 37) (TBof tbs_25 _ rfl) (by decide) rfl (fun c2 => ?_) (fun c2 => ?_)
  · replace H := H.1 c2
    refine ev_iconst (pc1 := 38) (x := 0) (by decide) (TBof tbs_25 _ rfl) rfl ?_
    exact ev_ireturn (TBof tbs_25 _ rfl) (retI_z rt_25 (Or.inl rfl)) ⟨_, rfl, H⟩
  · replace H := H.2 c2
    refine ev_aload_n (pc1 := 9) rfl rfl (TBof tbs_25 _ rfl) rfl ?_
    refine ev_iload_n (pc1 := 10) rfl (TBof tbs_25 _ rfl) rfl ?_
    refine ev_callvI (pc1 := 13) (as := [.int v1]) (r := []) (TBof tbs_25 _ rfl) rfl (lnkof mo_25 ln_2_69) rfl na_19 hS.lt0 (hS.sh.trans (by rw [mo_19])) (Nat.le_of_ble_eq_true rfl) H (fun x3 M3 h3 D3 H => ?_)
    refine ev_if (pc1 := 16) (t := 37) (TBof tbs_25 _ rfl) (by decide) rfl (fun c4 => ?_) (fun c4 => ?_)
    · replace H := H.1 c4
      refine ev_iconst (pc1 := 38) (x := 0) (by decide) (TBof tbs_25 _ rfl) rfl ?_
      exact ev_ireturn (TBof tbs_25 _ rfl) (retI_z rt_25 (Or.inl rfl)) ⟨_, rfl, H⟩
    · replace H := H.2 c4
      refine ev_aload_n (pc1 := 17) rfl rfl (TBof tbs_25 _ rfl) rfl ?_
      refine ev_iload_n (pc1 := 18) rfl (TBof tbs_25 _ rfl) rfl ?_
      refine ev_callvI (pc1 := 21) (as := [.int v1]) (r := []) (TBof tbs_25 _ rfl) rfl (lnkof mo_25 ln_2_72) rfl na_21 hS.lt0 (hS.sh.trans (by rw [mo_21])) (Nat.le_of_ble_eq_true rfl) H (fun x5 M5 h5 D5 H => ?_)
      refine ev_if (pc1 := 24) (t := 37) (TBof tbs_25 _ rfl) (by decide) rfl (fun c6 => ?_) (fun c6 => ?_)
      · replace H := H.1 c6
        refine ev_iconst (pc1 := 38) (x := 0) (by decide) (TBof tbs_25 _ rfl) rfl ?_
        exact ev_ireturn (TBof tbs_25 _ rfl) (retI_z rt_25 (Or.inl rfl)) ⟨_, rfl, H⟩
      · replace H := H.2 c6
        refine ev_aload_n (pc1 := 25) rfl rfl (TBof tbs_25 _ rfl) rfl ?_
        refine ev_bipush (pc1 := 27) (x := 10) (by decide) (TBof tbs_25 _ rfl) rfl ?_
        refine ev_callvI (pc1 := 30) (as := [.int 10]) (r := []) (TBof tbs_25 _ rfl) rfl (lnkof mo_25 ln_2_78) rfl na_20 hS.lt0 (hS.sh.trans (by rw [mo_20])) (Nat.le_of_ble_eq_true rfl) H (fun x7 M7 h7 D7 H => ?_)
        refine ev_if (pc1 := 33) (t := 37) (TBof tbs_25 _ rfl) (by decide) rfl (fun c8 => ?_) (fun c8 => ?_)
        · replace H := H.1 c8
          refine ev_iconst (pc1 := 38) (x := 0) (by decide) (TBof tbs_25 _ rfl) rfl ?_
          exact ev_ireturn (TBof tbs_25 _ rfl) (retI_z rt_25 (Or.inl rfl)) ⟨_, rfl, H⟩
        · replace H := H.2 c8
          refine ev_iconst (pc1 := 34) (x := 1) (by decide) (TBof tbs_25 _ rfl) rfl ?_
          refine ev_goto (pc1 := 38) (TBof tbs_25 _ rfl) (by decide) ?_
          exact ev_ireturn (TBof tbs_25 _ rfl) (retI_z rt_25 (Or.inr rfl)) ⟨_, rfl, H⟩
set_option maxRecDepth 100000 in
theorem R_X2_canTake_0 {d : Nat} {S : Nat} {v1 : Int32} {M : Im} {h : Hm} {D : Dm} {Q : Int32 → Im → Hm → Dm → Prop} (hS : St S) (H : CI d nX2_isInHand [.ref S, .int v1] M h D (fun x1 M1 h1 D1 => ((x1 = 0) → (vp_in v1 12 ∧ (CI d nX2_isThere [.ref S, .int (M1 (S + 7) (v1.toNatClampNeg))] M1 h1 D1 (fun x3 M3 h3 D3 => ((¬ (x3 = 0)) → (CI d nX2_isOpen [.ref S, .int (M1 (S + 7) (v1.toNatClampNeg))] M3 h3 D3 (fun x5 M5 h5 D5 => ((x5 = 0) → (Q 0 M5 h5 D5)) ∧ (¬ (x5 = 0) → (CI d nX2_isReached [.ref S, .int (M1 (S + 7) (v1.toNatClampNeg))] M5 h5 D5 (fun x7 M7 h7 D7 => ((x7 = 0) → (Q 0 M7 h7 D7)) ∧ (¬ (x7 = 0) → (vp_in (M1 (S + 7) (v1.toNatClampNeg)) 16 ∧ (vp_in v1 12 ∧ ((((M7 (S + 6) ((M1 (S + 7) (v1.toNatClampNeg)).toNatClampNeg)) < (M7 (S + 8) (v1.toNatClampNeg))) → (Q 0 M7 h7 D7)) ∧ (¬ ((M7 (S + 6) ((M1 (S + 7) (v1.toNatClampNeg)).toNatClampNeg)) < (M7 (S + 8) (v1.toNatClampNeg))) → (Q 1 M7 h7 D7)))))))))))) ∧ (¬ (¬ (x3 = 0)) → (Q 1 M3 h3 D3)))))) ∧ (¬ (x1 = 0) → (Q 0 M1 h1 D1)))) : EvI d nX2_canTake 0 [(0, .ref S), (1, .int v1)] [] M h D Q := by
  refine ev_aload_n (pc1 := 1) rfl rfl (TBof tbs_26 _ rfl) rfl ?_
  refine ev_iload_n (pc1 := 2) rfl (TBof tbs_26 _ rfl) rfl ?_
  refine ev_callvI (pc1 := 5) (as := [.int v1]) (r := []) (TBof tbs_26 _ rfl) rfl (lnkof mo_26 ln_2_78) rfl na_20 hS.lt0 (hS.sh.trans (by rw [mo_20])) (Nat.le_of_ble_eq_true rfl) H (fun x1 M1 h1 D1 H => ?_)
  refine ev_if (pc1 := 8) (t := 10) (TBof tbs_26 _ rfl) (by decide) rfl (fun c2 => ?_) (fun c2 => ?_)
  · replace H := H.1 c2
    refine ev_aload_n (pc1 := 11) rfl rfl (TBof tbs_26 _ rfl) rfl ?_
    refine ev_getP (pc1 := 14) (ci := 2) (k := 13) (a := (S + 7)) (TBof tbs_26 _ rfl) rfl (fldof mo_26 fl_2_30) hS.lt0 hS.sh nk_2_13 fp_2_13 hS.n28 hS.p13 ?_
    refine ev_iload_n (pc1 := 15) rfl (TBof tbs_26 _ rfl) rfl ?_
    refine ev_iaload (pc1 := 16) (n := 12) (TBof tbs_26 _ rfl) rfl (hS.lt (j := 7) (by decide)) hS.a7 H.1 ?_
    replace H := H.2
    refine ev_istore_n (pc1 := 17) (L1 := [(2, .int (M1 (S + 7) (v1.toNatClampNeg))), (0, .ref S), (1, .int v1)]) (by rw [ml_26]; decide) rfl (TBof tbs_26 _ rfl) rfl ?_
    refine ev_aload_n (pc1 := 18) rfl rfl (TBof tbs_26 _ rfl) rfl ?_
    refine ev_iload_n (pc1 := 19) rfl (TBof tbs_26 _ rfl) rfl ?_
    refine ev_callvI (pc1 := 22) (as := [.int (M1 (S + 7) (v1.toNatClampNeg))]) (r := []) (TBof tbs_26 _ rfl) rfl (lnkof mo_26 ln_2_65) rfl na_18 hS.lt0 (hS.sh.trans (by rw [mo_18])) (Nat.le_of_ble_eq_true rfl) H (fun x3 M3 h3 D3 H => ?_)
    refine ev_if (pc1 := 25) (t := 27) (TBof tbs_26 _ rfl) (by decide) rfl (fun c4 => ?_) (fun c4 => ?_)
    · replace H := H.1 c4
      refine ev_aload_n (pc1 := 28) rfl rfl (TBof tbs_26 _ rfl) rfl ?_
      refine ev_iload_n (pc1 := 29) rfl (TBof tbs_26 _ rfl) rfl ?_
      refine ev_callvI (pc1 := 32) (as := [.int (M1 (S + 7) (v1.toNatClampNeg))]) (r := []) (TBof tbs_26 _ rfl) rfl (lnkof mo_26 ln_2_69) rfl na_19 hS.lt0 (hS.sh.trans (by rw [mo_19])) (Nat.le_of_ble_eq_true rfl) H (fun x5 M5 h5 D5 H => ?_)
      refine ev_if (pc1 := 35) (t := 62) (TBof tbs_26 _ rfl) (by decide) rfl (fun c6 => ?_) (fun c6 => ?_)
      · replace H := H.1 c6
        refine ev_iconst (pc1 := 63) (x := 0) (by decide) (TBof tbs_26 _ rfl) rfl ?_
        exact ev_ireturn (TBof tbs_26 _ rfl) (retI_z rt_26 (Or.inl rfl)) ⟨_, rfl, H⟩
      · replace H := H.2 c6
        refine ev_aload_n (pc1 := 36) rfl rfl (TBof tbs_26 _ rfl) rfl ?_
        refine ev_iload_n (pc1 := 37) rfl (TBof tbs_26 _ rfl) rfl ?_
        refine ev_callvI (pc1 := 40) (as := [.int (M1 (S + 7) (v1.toNatClampNeg))]) (r := []) (TBof tbs_26 _ rfl) rfl (lnkof mo_26 ln_2_72) rfl na_21 hS.lt0 (hS.sh.trans (by rw [mo_21])) (Nat.le_of_ble_eq_true rfl) H (fun x7 M7 h7 D7 H => ?_)
        refine ev_if (pc1 := 43) (t := 62) (TBof tbs_26 _ rfl) (by decide) rfl (fun c8 => ?_) (fun c8 => ?_)
        · replace H := H.1 c8
          refine ev_iconst (pc1 := 63) (x := 0) (by decide) (TBof tbs_26 _ rfl) rfl ?_
          exact ev_ireturn (TBof tbs_26 _ rfl) (retI_z rt_26 (Or.inl rfl)) ⟨_, rfl, H⟩
        · replace H := H.2 c8
          refine ev_aload_n (pc1 := 44) rfl rfl (TBof tbs_26 _ rfl) rfl ?_
          refine ev_getP (pc1 := 47) (ci := 2) (k := 12) (a := (S + 6)) (TBof tbs_26 _ rfl) rfl (fldof mo_26 fl_2_27) hS.lt0 hS.sh nk_2_12 fp_2_12 hS.n28 hS.p12 ?_
          refine ev_iload_n (pc1 := 48) rfl (TBof tbs_26 _ rfl) rfl ?_
          refine ev_iaload (pc1 := 49) (n := 16) (TBof tbs_26 _ rfl) rfl (hS.lt (j := 6) (by decide)) hS.a6 H.1 ?_
          replace H := H.2
          refine ev_aload_n (pc1 := 50) rfl rfl (TBof tbs_26 _ rfl) rfl ?_
          refine ev_getP (pc1 := 53) (ci := 2) (k := 14) (a := (S + 8)) (TBof tbs_26 _ rfl) rfl (fldof mo_26 fl_2_33) hS.lt0 hS.sh nk_2_14 fp_2_14 hS.n28 hS.p14 ?_
          refine ev_iload_n (pc1 := 54) rfl (TBof tbs_26 _ rfl) rfl ?_
          refine ev_iaload (pc1 := 55) (n := 12) (TBof tbs_26 _ rfl) rfl (hS.lt (j := 8) (by decide)) hS.a8 H.1 ?_
          replace H := H.2
          refine ev_icmp (pc1 := 58) (t := 62) (TBof tbs_26 _ rfl) (by decide) rfl (fun c9 => ?_) (fun c9 => ?_)
          · replace H := H.1 c9
            refine ev_iconst (pc1 := 63) (x := 0) (by decide) (TBof tbs_26 _ rfl) rfl ?_
            exact ev_ireturn (TBof tbs_26 _ rfl) (retI_z rt_26 (Or.inl rfl)) ⟨_, rfl, H⟩
          · replace H := H.2 c9
            refine ev_iconst (pc1 := 59) (x := 1) (by decide) (TBof tbs_26 _ rfl) rfl ?_
            refine ev_goto (pc1 := 63) (TBof tbs_26 _ rfl) (by decide) ?_
            exact ev_ireturn (TBof tbs_26 _ rfl) (retI_z rt_26 (Or.inr rfl)) ⟨_, rfl, H⟩
    · replace H := H.2 c4
      refine ev_iconst (pc1 := 26) (x := 1) (by decide) (TBof tbs_26 _ rfl) rfl ?_
      exact ev_ireturn (TBof tbs_26 _ rfl) (retI_z rt_26 (Or.inr rfl)) ⟨_, rfl, H⟩
  · replace H := H.2 c2
    refine ev_iconst (pc1 := 9) (x := 0) (by decide) (TBof tbs_26 _ rfl) rfl ?_
    exact ev_ireturn (TBof tbs_26 _ rfl) (retI_z rt_26 (Or.inl rfl)) ⟨_, rfl, H⟩
set_option maxRecDepth 100000 in
theorem R_X2_canSeal_0 {d : Nat} {S : Nat} {v1 : Int32} {M : Im} {h : Hm} {D : Dm} {Q : Int32 → Im → Hm → Dm → Prop} (hS : St S) (H : CI d nX3_isIn [.int (M S 5), .int v1] M h D (fun x1 M1 h1 D1 => ((x1 = 0) → (Q 0 M1 h1 D1)) ∧ (¬ (x1 = 0) → (CI d nX2_isOpen [.ref S, .int v1] M1 h1 D1 (fun x3 M3 h3 D3 => ((¬ (x3 = 0)) → (Q 0 M3 h3 D3)) ∧ (¬ (¬ (x3 = 0)) → (CI d nX2_isReached [.ref S, .int v1] M3 h3 D3 (fun x5 M5 h5 D5 => ((x5 = 0) → (Q 0 M5 h5 D5)) ∧ (¬ (x5 = 0) → (CI d nX2_isInHand [.ref S, .int 11] M5 h5 D5 (fun x7 M7 h7 D7 => ((x7 = 0) → (Q 0 M7 h7 D7)) ∧ (¬ (x7 = 0) → (Q 1 M7 h7 D7))))))))))))) : EvI d nX2_canSeal 0 [(0, .ref S), (1, .int v1)] [] M h D Q := by
  refine ev_aload_n (pc1 := 1) rfl rfl (TBof tbs_27 _ rfl) rfl ?_
  refine ev_getI (pc1 := 4) (ci := 2) (k := 5) (TBof tbs_27 _ rfl) rfl (fldof mo_27 fl_2_53) hS.lt0 hS.sh nk_2_5 fi_2_5 ?_
  refine ev_iload_n (pc1 := 5) rfl (TBof tbs_27 _ rfl) rfl ?_
  refine ev_callsI (pc1 := 8) (as := [.int (M S 5), .int v1]) (r := []) (TBof tbs_27 _ rfl) rfl (lnkof mo_27 ln_2_84) (Or.inr rfl) rfl na_61 (Nat.le_of_ble_eq_true rfl) H (fun x1 M1 h1 D1 H => ?_)
  refine ev_if (pc1 := 11) (t := 40) (TBof tbs_27 _ rfl) (by decide) rfl (fun c2 => ?_) (fun c2 => ?_)
  · replace H := H.1 c2
    refine ev_iconst (pc1 := 41) (x := 0) (by decide) (TBof tbs_27 _ rfl) rfl ?_
    exact ev_ireturn (TBof tbs_27 _ rfl) (retI_z rt_27 (Or.inl rfl)) ⟨_, rfl, H⟩
  · replace H := H.2 c2
    refine ev_aload_n (pc1 := 12) rfl rfl (TBof tbs_27 _ rfl) rfl ?_
    refine ev_iload_n (pc1 := 13) rfl (TBof tbs_27 _ rfl) rfl ?_
    refine ev_callvI (pc1 := 16) (as := [.int v1]) (r := []) (TBof tbs_27 _ rfl) rfl (lnkof mo_27 ln_2_69) rfl na_19 hS.lt0 (hS.sh.trans (by rw [mo_19])) (Nat.le_of_ble_eq_true rfl) H (fun x3 M3 h3 D3 H => ?_)
    refine ev_if (pc1 := 19) (t := 40) (TBof tbs_27 _ rfl) (by decide) rfl (fun c4 => ?_) (fun c4 => ?_)
    · replace H := H.1 c4
      refine ev_iconst (pc1 := 41) (x := 0) (by decide) (TBof tbs_27 _ rfl) rfl ?_
      exact ev_ireturn (TBof tbs_27 _ rfl) (retI_z rt_27 (Or.inl rfl)) ⟨_, rfl, H⟩
    · replace H := H.2 c4
      refine ev_aload_n (pc1 := 20) rfl rfl (TBof tbs_27 _ rfl) rfl ?_
      refine ev_iload_n (pc1 := 21) rfl (TBof tbs_27 _ rfl) rfl ?_
      refine ev_callvI (pc1 := 24) (as := [.int v1]) (r := []) (TBof tbs_27 _ rfl) rfl (lnkof mo_27 ln_2_72) rfl na_21 hS.lt0 (hS.sh.trans (by rw [mo_21])) (Nat.le_of_ble_eq_true rfl) H (fun x5 M5 h5 D5 H => ?_)
      refine ev_if (pc1 := 27) (t := 40) (TBof tbs_27 _ rfl) (by decide) rfl (fun c6 => ?_) (fun c6 => ?_)
      · replace H := H.1 c6
        refine ev_iconst (pc1 := 41) (x := 0) (by decide) (TBof tbs_27 _ rfl) rfl ?_
        exact ev_ireturn (TBof tbs_27 _ rfl) (retI_z rt_27 (Or.inl rfl)) ⟨_, rfl, H⟩
      · replace H := H.2 c6
        refine ev_aload_n (pc1 := 28) rfl rfl (TBof tbs_27 _ rfl) rfl ?_
        refine ev_bipush (pc1 := 30) (x := 11) (by decide) (TBof tbs_27 _ rfl) rfl ?_
        refine ev_callvI (pc1 := 33) (as := [.int 11]) (r := []) (TBof tbs_27 _ rfl) rfl (lnkof mo_27 ln_2_78) rfl na_20 hS.lt0 (hS.sh.trans (by rw [mo_20])) (Nat.le_of_ble_eq_true rfl) H (fun x7 M7 h7 D7 H => ?_)
        refine ev_if (pc1 := 36) (t := 40) (TBof tbs_27 _ rfl) (by decide) rfl (fun c8 => ?_) (fun c8 => ?_)
        · replace H := H.1 c8
          refine ev_iconst (pc1 := 41) (x := 0) (by decide) (TBof tbs_27 _ rfl) rfl ?_
          exact ev_ireturn (TBof tbs_27 _ rfl) (retI_z rt_27 (Or.inl rfl)) ⟨_, rfl, H⟩
        · replace H := H.2 c8
          refine ev_iconst (pc1 := 37) (x := 1) (by decide) (TBof tbs_27 _ rfl) rfl ?_
          refine ev_goto (pc1 := 41) (TBof tbs_27 _ rfl) (by decide) ?_
          exact ev_ireturn (TBof tbs_27 _ rfl) (retI_z rt_27 (Or.inr rfl)) ⟨_, rfl, H⟩
set_option maxRecDepth 100000 in
theorem R_X2_setOpen_0 {d : Nat} {S : Nat} {v1 : Int32} {M : Im} {h : Hm} {D : Dm} {Q : Im → Hm → Dm → Prop} (hS : St S) (H : CI d nX3_bit [.int v1] M h D (fun x1 M1 h1 D1 => vp_in v1 16 ∧ (((¬ (((up2 M1 S 4 ((M S 4) ||| x1)) (S + 2) (v1.toNatClampNeg)) = 3)) → (Q (up2 M1 S 4 ((M S 4) ||| x1)) h1 D1)) ∧ (¬ (¬ (((up2 M1 S 4 ((M S 4) ||| x1)) (S + 2) (v1.toNatClampNeg)) = 3)) → (CI d nX3_bit [.int v1] (up2 M1 S 4 ((M S 4) ||| x1)) h1 D1 (fun x3 M3 h3 D3 => Q (up2 M3 S 5 (((up2 M1 S 4 ((M S 4) ||| x1)) S 5) ||| x3)) h3 D3)))))) : EvV d nX2_setOpen 0 [(0, .ref S), (1, .int v1)] [] M h D Q := by
  refine ev_aload_n (pc1 := 1) rfl rfl (TBof tbs_28 _ rfl) rfl ?_
  refine ev_dup (pc1 := 2) rfl (TBof tbs_28 _ rfl) rfl ?_
  refine ev_getI (pc1 := 5) (ci := 2) (k := 4) (TBof tbs_28 _ rfl) rfl (fldof mo_28 fl_2_50) hS.lt0 hS.sh nk_2_4 fi_2_4 ?_
  refine ev_iload_n (pc1 := 6) rfl (TBof tbs_28 _ rfl) rfl ?_
  refine ev_callsI (pc1 := 9) (as := [.int v1]) (r := [.int (M S 4), .ref S]) (TBof tbs_28 _ rfl) rfl (lnkof mo_28 ln_2_88) (Or.inr rfl) rfl na_60 (Nat.le_of_ble_eq_true rfl) H (fun x1 M1 h1 D1 H => ?_)
  refine ev_ior (pc1 := 10) (TBof tbs_28 _ rfl) rfl ?_
  refine ev_putI (pc1 := 13) (ci := 2) (k := 4) (TBof tbs_28 _ rfl) rfl (fldof mo_28 fl_2_50) hS.lt0 hS.sh nk_2_4 rfl rfl ?_
  refine ev_aload_n (pc1 := 14) rfl rfl (TBof tbs_28 _ rfl) rfl ?_
  refine ev_getP (pc1 := 17) (ci := 2) (k := 8) (a := (S + 2)) (TBof tbs_28 _ rfl) rfl (fldof mo_28 fl_2_15) hS.lt0 hS.sh nk_2_8 fp_2_8 hS.n28 hS.p8 ?_
  refine ev_iload_n (pc1 := 18) rfl (TBof tbs_28 _ rfl) rfl ?_
  refine ev_iaload (pc1 := 19) (n := 16) (TBof tbs_28 _ rfl) rfl (hS.lt (j := 2) (by decide)) hS.a2 H.1 ?_
  replace H := H.2
  refine ev_iconst (pc1 := 20) (x := 3) (by decide) (TBof tbs_28 _ rfl) rfl ?_
  refine ev_icmp (pc1 := 23) (t := 36) (TBof tbs_28 _ rfl) (by decide) rfl (fun c2 => ?_) (fun c2 => ?_)
  · replace H := H.1 c2
    exact ev_return (TBof tbs_28 _ rfl) rt_28 ⟨rfl, H⟩
  · replace H := H.2 c2
    refine ev_aload_n (pc1 := 24) rfl rfl (TBof tbs_28 _ rfl) rfl ?_
    refine ev_dup (pc1 := 25) rfl (TBof tbs_28 _ rfl) rfl ?_
    refine ev_getI (pc1 := 28) (ci := 2) (k := 5) (TBof tbs_28 _ rfl) rfl (fldof mo_28 fl_2_53) hS.lt0 hS.sh nk_2_5 fi_2_5 ?_
    refine ev_iload_n (pc1 := 29) rfl (TBof tbs_28 _ rfl) rfl ?_
    refine ev_callsI (pc1 := 32) (as := [.int v1]) (r := [.int ((up2 M1 S 4 ((M S 4) ||| x1)) S 5), .ref S]) (TBof tbs_28 _ rfl) rfl (lnkof mo_28 ln_2_88) (Or.inr rfl) rfl na_60 (Nat.le_of_ble_eq_true rfl) H (fun x3 M3 h3 D3 H => ?_)
    refine ev_ior (pc1 := 33) (TBof tbs_28 _ rfl) rfl ?_
    refine ev_putI (pc1 := 36) (ci := 2) (k := 5) (TBof tbs_28 _ rfl) rfl (fldof mo_28 fl_2_53) hS.lt0 hS.sh nk_2_5 rfl rfl ?_
    exact ev_return (TBof tbs_28 _ rfl) rt_28 ⟨rfl, H⟩
set_option maxRecDepth 100000 in
theorem R_X2_addStep_0 {d : Nat} {S : Nat} {v1 : Int32} {M : Im} {h : Hm} {D : Dm} {Q : Im → Hm → Dm → Prop} (hS : St S) (H : Q (up2 (up2 M S 2 ((M S 2) + 1)) S 3 (((up2 M S 2 ((M S 2) + 1)) S 3) + v1)) h D) : EvV d nX2_addStep 0 [(0, .ref S), (1, .int v1)] [] M h D Q := by
  refine ev_aload_n (pc1 := 1) rfl rfl (TBof tbs_29 _ rfl) rfl ?_
  refine ev_dup (pc1 := 2) rfl (TBof tbs_29 _ rfl) rfl ?_
  refine ev_getI (pc1 := 5) (ci := 2) (k := 2) (TBof tbs_29 _ rfl) rfl (fldof mo_29 fl_2_44) hS.lt0 hS.sh nk_2_2 fi_2_2 ?_
  refine ev_iconst (pc1 := 6) (x := 1) (by decide) (TBof tbs_29 _ rfl) rfl ?_
  refine ev_iadd (pc1 := 7) (TBof tbs_29 _ rfl) rfl ?_
  refine ev_putI (pc1 := 10) (ci := 2) (k := 2) (TBof tbs_29 _ rfl) rfl (fldof mo_29 fl_2_44) hS.lt0 hS.sh nk_2_2 rfl rfl ?_
  refine ev_aload_n (pc1 := 11) rfl rfl (TBof tbs_29 _ rfl) rfl ?_
  refine ev_dup (pc1 := 12) rfl (TBof tbs_29 _ rfl) rfl ?_
  refine ev_getI (pc1 := 15) (ci := 2) (k := 3) (TBof tbs_29 _ rfl) rfl (fldof mo_29 fl_2_47) hS.lt0 hS.sh nk_2_3 fi_2_3 ?_
  refine ev_iload_n (pc1 := 16) rfl (TBof tbs_29 _ rfl) rfl ?_
  refine ev_iadd (pc1 := 17) (TBof tbs_29 _ rfl) rfl ?_
  refine ev_putI (pc1 := 20) (ci := 2) (k := 3) (TBof tbs_29 _ rfl) rfl (fldof mo_29 fl_2_47) hS.lt0 hS.sh nk_2_3 rfl rfl ?_
  exact ev_return (TBof tbs_29 _ rfl) rt_29 ⟨rfl, H⟩
set_option maxRecDepth 100000 in
theorem R_X2_makeAllSteps_0 {d : Nat} {S : Nat} {M : Im} {h : Hm} {D : Dm} {Q : Im → Hm → Dm → Prop} (hS : St S) (H : EvV d nX2_makeAllSteps 4 [(0, .ref S), (1, .int 1), (2, .int 0)] [] M h D Q) : EvV d nX2_makeAllSteps 0 [(0, .ref S)] [] M h D Q := by
  refine ev_iconst (pc1 := 1) (x := 1) (by decide) (TBof tbs_30 _ rfl) rfl ?_
  refine ev_istore_n (pc1 := 2) (L1 := [(1, .int 1), (0, .ref S)]) (by rw [ml_30]; decide) rfl (TBof tbs_30 _ rfl) rfl ?_
  refine ev_iconst (pc1 := 3) (x := 0) (by decide) (TBof tbs_30 _ rfl) rfl ?_
  refine ev_istore_n (pc1 := 4) (L1 := [(2, .int 0), (1, .int 1), (0, .ref S)]) (by rw [ml_30]; decide) rfl (TBof tbs_30 _ rfl) rfl ?_
  exact ev_le [2, 1, 0] rfl rfl H
set_option maxRecDepth 100000 in
theorem R_X2_makeAllSteps_4 {d : Nat} {S : Nat} {v1 v2 : Int32} {M : Im} {h : Hm} {D : Dm} {Q : Im → Hm → Dm → Prop} (hS : St S) (H : ((76 < v2) → (Q M h D)) ∧ (¬ (76 < v2) → (((v1 = 0) → (Q M h D)) ∧ (¬ (v1 = 0) → (CI d nX2_makeSteps [.ref S] M h D (fun x3 M3 h3 D3 => EvV d nX2_makeAllSteps 4 [(0, .ref S), (1, .int x3), (2, .int (v2 + 1))] [] M3 h3 D3 Q)))))) : EvV d nX2_makeAllSteps 4 [(0, .ref S), (1, .int v1), (2, .int v2)] [] M h D Q := by
  refine ev_iload_n (pc1 := 5) rfl (TBof tbs_30 _ rfl) rfl ?_
  refine ev_bipush (pc1 := 7) (x := 76) (by decide) (TBof tbs_30 _ rfl) rfl ?_
  refine ev_icmp (pc1 := 10) (t := 25) (TBof tbs_30 _ rfl) (by decide) rfl (fun c1 => ?_) (fun c1 => ?_)
  · replace H := H.1 c1
    exact ev_return (TBof tbs_30 _ rfl) rt_30 ⟨rfl, H⟩
  · replace H := H.2 c1
    refine ev_iload_n (pc1 := 11) rfl (TBof tbs_30 _ rfl) rfl ?_
    refine ev_if (pc1 := 14) (t := 25) (TBof tbs_30 _ rfl) (by decide) rfl (fun c2 => ?_) (fun c2 => ?_)
    · replace H := H.1 c2
      exact ev_return (TBof tbs_30 _ rfl) rt_30 ⟨rfl, H⟩
    · replace H := H.2 c2
      refine ev_aload_n (pc1 := 15) rfl rfl (TBof tbs_30 _ rfl) rfl ?_
      refine ev_callvI (pc1 := 18) (as := []) (r := []) (TBof tbs_30 _ rfl) rfl (lnkof mo_30 ln_2_92) rfl na_31 hS.lt0 (hS.sh.trans (by rw [mo_31])) (Nat.le_of_ble_eq_true rfl) H (fun x3 M3 h3 D3 H => ?_)
      refine ev_istore_n (pc1 := 19) (L1 := [(1, .int x3), (0, .ref S), (2, .int v2)]) (by rw [ml_30]; decide) rfl (TBof tbs_30 _ rfl) rfl ?_
      refine ev_iinc (pc1 := 22) (n := 2) (c := 1) (x := v2) (cc := 1) (L1 := [(2, .int (v2 + 1)), (1, .int x3), (0, .ref S)]) rfl (by rw [ml_30]; decide) (by decide) rfl (TBof tbs_30 _ rfl) rfl ?_
      refine ev_goto (pc1 := 4) (TBof tbs_30 _ rfl) (by decide) ?_
      exact ev_le [2, 1, 0] rfl rfl H
set_option maxRecDepth 100000 in
theorem R_X2_makeSteps_0 {d : Nat} {S : Nat} {M : Im} {h : Hm} {D : Dm} {Q : Int32 → Im → Hm → Dm → Prop} (hS : St S) (H : EvI d nX2_makeSteps 4 [(0, .ref S), (1, .int 0), (2, .int 0)] [] M h D Q) : EvI d nX2_makeSteps 0 [(0, .ref S)] [] M h D Q := by
  refine ev_iconst (pc1 := 1) (x := 0) (by decide) (TBof tbs_31 _ rfl) rfl ?_
  refine ev_istore_n (pc1 := 2) (L1 := [(1, .int 0), (0, .ref S)]) (by rw [ml_31]; decide) rfl (TBof tbs_31 _ rfl) rfl ?_
  refine ev_iconst (pc1 := 3) (x := 0) (by decide) (TBof tbs_31 _ rfl) rfl ?_
  refine ev_istore_n (pc1 := 4) (L1 := [(2, .int 0), (1, .int 0), (0, .ref S)]) (by rw [ml_31]; decide) rfl (TBof tbs_31 _ rfl) rfl ?_
  exact ev_le [2, 1, 0] rfl rfl H
set_option maxRecDepth 100000 in
theorem R_X2_makeSteps_4 {d : Nat} {S : Nat} {v1 v2 : Int32} {M : Im} {h : Hm} {D : Dm} {Q : Int32 → Im → Hm → Dm → Prop} (hS : St S) (H : (((M S 0) ≤ v2) → (EvI d nX2_makeSteps 55 [(0, .ref S), (1, .int v1), (2, .int 0)] [] M h D Q)) ∧ (¬ ((M S 0) ≤ v2) → (CI d nX2_canOpen [.ref S, .int v2] M h D (fun x2 M2 h2 D2 => ((x2 = 0) → (EvI d nX2_makeSteps 27 [(0, .ref S), (1, .int v1), (2, .int v2)] [] M2 h2 D2 Q)) ∧ (¬ (x2 = 0) → (CV d nX2_setOpen [.ref S, .int v2] M2 h2 D2 (fun M4 h4 D4 => EvI d nX2_makeSteps 27 [(0, .ref S), (1, .int 1), (2, .int v2)] [] M4 h4 D4 Q))))))) : EvI d nX2_makeSteps 4 [(0, .ref S), (1, .int v1), (2, .int v2)] [] M h D Q := by
  refine ev_iload_n (pc1 := 5) rfl (TBof tbs_31 _ rfl) rfl ?_
  refine ev_aload_n (pc1 := 6) rfl rfl (TBof tbs_31 _ rfl) rfl ?_
  refine ev_getI (pc1 := 9) (ci := 2) (k := 0) (TBof tbs_31 _ rfl) rfl (fldof mo_31 fl_2_36) hS.lt0 hS.sh nk_2_0 fi_2_0 ?_
  refine ev_icmp (pc1 := 12) (t := 53) (TBof tbs_31 _ rfl) (by decide) rfl (fun c1 => ?_) (fun c1 => ?_)
  · replace H := H.1 c1
    refine ev_iconst (pc1 := 54) (x := 0) (by decide) (TBof tbs_31 _ rfl) rfl ?_
    refine ev_istore_n (pc1 := 55) (L1 := [(2, .int 0), (0, .ref S), (1, .int v1)]) (by rw [ml_31]; decide) rfl (TBof tbs_31 _ rfl) rfl ?_
    exact ev_le [1, 2, 0] rfl rfl H
  · replace H := H.2 c1
    refine ev_aload_n (pc1 := 13) rfl rfl (TBof tbs_31 _ rfl) rfl ?_
    refine ev_iload_n (pc1 := 14) rfl (TBof tbs_31 _ rfl) rfl ?_
    refine ev_callvI (pc1 := 17) (as := [.int v2]) (r := []) (TBof tbs_31 _ rfl) rfl (lnkof mo_31 ln_2_96) rfl na_22 hS.lt0 (hS.sh.trans (by rw [mo_22])) (Nat.le_of_ble_eq_true rfl) H (fun x2 M2 h2 D2 H => ?_)
    refine ev_if (pc1 := 20) (t := 27) (TBof tbs_31 _ rfl) (by decide) rfl (fun c3 => ?_) (fun c3 => ?_)
    · replace H := H.1 c3
      exact ev_le [0, 1, 2] rfl rfl H
    · replace H := H.2 c3
      refine ev_aload_n (pc1 := 21) rfl rfl (TBof tbs_31 _ rfl) rfl ?_
      refine ev_iload_n (pc1 := 22) rfl (TBof tbs_31 _ rfl) rfl ?_
      refine ev_callvV (pc1 := 25) (as := [.int v2]) (r := []) (TBof tbs_31 _ rfl) rfl (lnkof mo_31 ln_2_99) rfl na_28 hS.lt0 (hS.sh.trans (by rw [mo_28])) (Nat.le_of_ble_eq_true rfl) H (fun M4 h4 D4 H => ?_)
      refine ev_iconst (pc1 := 26) (x := 1) (by decide) (TBof tbs_31 _ rfl) rfl ?_
      refine ev_istore_n (pc1 := 27) (L1 := [(1, .int 1), (0, .ref S), (2, .int v2)]) (by rw [ml_31]; decide) rfl (TBof tbs_31 _ rfl) rfl ?_
      exact ev_le [1, 0, 2] rfl rfl H
set_option maxRecDepth 100000 in
theorem R_X2_makeSteps_27 {d : Nat} {S : Nat} {v1 v2 : Int32} {M : Im} {h : Hm} {D : Dm} {Q : Int32 → Im → Hm → Dm → Prop} (hS : St S) (H : CI d nX2_canLift [.ref S, .int v2] M h D (fun x1 M1 h1 D1 => ((x1 = 0) → (EvI d nX2_makeSteps 4 [(0, .ref S), (1, .int v1), (2, .int (v2 + 1))] [] M1 h1 D1 Q)) ∧ (¬ (x1 = 0) → (vp_in v2 16 ∧ (vp_in v2 16 ∧ (EvI d nX2_makeSteps 4 [(0, .ref S), (1, .int 1), (2, .int (v2 + 1))] [] (up2 M1 (S + 6) (v2.toNatClampNeg) ((M1 (S + 6) (v2.toNatClampNeg)) + 1)) h1 D1 Q)))))) : EvI d nX2_makeSteps 27 [(0, .ref S), (1, .int v1), (2, .int v2)] [] M h D Q := by
  refine ev_aload_n (pc1 := 28) rfl rfl (TBof tbs_31 _ rfl) rfl ?_
  refine ev_iload_n (pc1 := 29) rfl (TBof tbs_31 _ rfl) rfl ?_
  refine ev_callvI (pc1 := 32) (as := [.int v2]) (r := []) (TBof tbs_31 _ rfl) rfl (lnkof mo_31 ln_2_103) rfl na_25 hS.lt0 (hS.sh.trans (by rw [mo_25])) (Nat.le_of_ble_eq_true rfl) H (fun x1 M1 h1 D1 H => ?_)
  refine ev_if (pc1 := 35) (t := 47) (TBof tbs_31 _ rfl) (by decide) rfl (fun c2 => ?_) (fun c2 => ?_)
  · replace H := H.1 c2
    refine ev_iinc (pc1 := 50) (n := 2) (c := 1) (x := v2) (cc := 1) (L1 := [(2, .int (v2 + 1)), (0, .ref S), (1, .int v1)]) rfl (by rw [ml_31]; decide) (by decide) rfl (TBof tbs_31 _ rfl) rfl ?_
    refine ev_goto (pc1 := 4) (TBof tbs_31 _ rfl) (by decide) ?_
    exact ev_le [1, 2, 0] rfl rfl H
  · replace H := H.2 c2
    refine ev_aload_n (pc1 := 36) rfl rfl (TBof tbs_31 _ rfl) rfl ?_
    refine ev_getP (pc1 := 39) (ci := 2) (k := 12) (a := (S + 6)) (TBof tbs_31 _ rfl) rfl (fldof mo_31 fl_2_27) hS.lt0 hS.sh nk_2_12 fp_2_12 hS.n28 hS.p12 ?_
    refine ev_iload_n (pc1 := 40) rfl (TBof tbs_31 _ rfl) rfl ?_
    refine ev_dup2 (pc1 := 41) rfl rfl (TBof tbs_31 _ rfl) rfl ?_
    refine ev_iaload (pc1 := 42) (n := 16) (TBof tbs_31 _ rfl) rfl (hS.lt (j := 6) (by decide)) hS.a6 H.1 ?_
    replace H := H.2
    refine ev_iconst (pc1 := 43) (x := 1) (by decide) (TBof tbs_31 _ rfl) rfl ?_
    refine ev_iadd (pc1 := 44) (TBof tbs_31 _ rfl) rfl ?_
    refine ev_iastore (pc1 := 45) (n := 16) (TBof tbs_31 _ rfl) rfl (hS.lt (j := 6) (by decide)) hS.a6 H.1 ?_
    replace H := H.2
    refine ev_iconst (pc1 := 46) (x := 1) (by decide) (TBof tbs_31 _ rfl) rfl ?_
    refine ev_istore_n (pc1 := 47) (L1 := [(1, .int 1), (0, .ref S), (2, .int v2)]) (by rw [ml_31]; decide) rfl (TBof tbs_31 _ rfl) rfl ?_
    refine ev_iinc (pc1 := 50) (n := 2) (c := 1) (x := v2) (cc := 1) (L1 := [(2, .int (v2 + 1)), (1, .int 1), (0, .ref S)]) rfl (by rw [ml_31]; decide) (by decide) rfl (TBof tbs_31 _ rfl) rfl ?_
    refine ev_goto (pc1 := 4) (TBof tbs_31 _ rfl) (by decide) ?_
    exact ev_le [2, 1, 0] rfl rfl H
set_option maxRecDepth 100000 in
theorem R_X2_makeSteps_55 {d : Nat} {S : Nat} {v1 v2 : Int32} {M : Im} {h : Hm} {D : Dm} {Q : Int32 → Im → Hm → Dm → Prop} (hS : St S) (H : ((12 ≤ v2) → ((v1 = 0 ∨ v1 = 1) ∧ Q v1 M h D)) ∧ (¬ (12 ≤ v2) → (CI d nX2_canTake [.ref S, .int v2] M h D (fun x2 M2 h2 D2 => ((x2 = 0) → (EvI d nX2_makeSteps 55 [(0, .ref S), (1, .int v1), (2, .int (v2 + 1))] [] M2 h2 D2 Q)) ∧ (¬ (x2 = 0) → (CI d nX3_bit [.int v2] M2 h2 D2 (fun x4 M4 h4 D4 => EvI d nX2_makeSteps 55 [(0, .ref S), (1, .int 1), (2, .int (v2 + 1))] [] (up2 M4 S 6 ((M2 S 6) ||| x4)) h4 D4 Q))))))) : EvI d nX2_makeSteps 55 [(0, .ref S), (1, .int v1), (2, .int v2)] [] M h D Q := by
  refine ev_iload_n (pc1 := 56) rfl (TBof tbs_31 _ rfl) rfl ?_
  refine ev_bipush (pc1 := 58) (x := 12) (by decide) (TBof tbs_31 _ rfl) rfl ?_
  refine ev_icmp (pc1 := 61) (t := 90) (TBof tbs_31 _ rfl) (by decide) rfl (fun c1 => ?_) (fun c1 => ?_)
  · replace H := H.1 c1
    refine ev_iload_n (pc1 := 91) rfl (TBof tbs_31 _ rfl) rfl ?_
    exact ev_ireturn (TBof tbs_31 _ rfl) (retI_z rt_31 H.1) ⟨_, rfl, H.2⟩
  · replace H := H.2 c1
    refine ev_aload_n (pc1 := 62) rfl rfl (TBof tbs_31 _ rfl) rfl ?_
    refine ev_iload_n (pc1 := 63) rfl (TBof tbs_31 _ rfl) rfl ?_
    refine ev_callvI (pc1 := 66) (as := [.int v2]) (r := []) (TBof tbs_31 _ rfl) rfl (lnkof mo_31 ln_2_106) rfl na_26 hS.lt0 (hS.sh.trans (by rw [mo_26])) (Nat.le_of_ble_eq_true rfl) H (fun x2 M2 h2 D2 H => ?_)
    refine ev_if (pc1 := 69) (t := 84) (TBof tbs_31 _ rfl) (by decide) rfl (fun c3 => ?_) (fun c3 => ?_)
    · replace H := H.1 c3
      refine ev_iinc (pc1 := 87) (n := 2) (c := 1) (x := v2) (cc := 1) (L1 := [(2, .int (v2 + 1)), (0, .ref S), (1, .int v1)]) rfl (by rw [ml_31]; decide) (by decide) rfl (TBof tbs_31 _ rfl) rfl ?_
      refine ev_goto (pc1 := 55) (TBof tbs_31 _ rfl) (by decide) ?_
      exact ev_le [1, 2, 0] rfl rfl H
    · replace H := H.2 c3
      refine ev_aload_n (pc1 := 70) rfl rfl (TBof tbs_31 _ rfl) rfl ?_
      refine ev_dup (pc1 := 71) rfl (TBof tbs_31 _ rfl) rfl ?_
      refine ev_getI (pc1 := 74) (ci := 2) (k := 6) (TBof tbs_31 _ rfl) rfl (fldof mo_31 fl_2_56) hS.lt0 hS.sh nk_2_6 fi_2_6 ?_
      refine ev_iload_n (pc1 := 75) rfl (TBof tbs_31 _ rfl) rfl ?_
      refine ev_callsI (pc1 := 78) (as := [.int v2]) (r := [.int (M2 S 6), .ref S]) (TBof tbs_31 _ rfl) rfl (lnkof mo_31 ln_2_88) (Or.inr rfl) rfl na_60 (Nat.le_of_ble_eq_true rfl) H (fun x4 M4 h4 D4 H => ?_)
      refine ev_ior (pc1 := 79) (TBof tbs_31 _ rfl) rfl ?_
      refine ev_putI (pc1 := 82) (ci := 2) (k := 6) (TBof tbs_31 _ rfl) rfl (fldof mo_31 fl_2_56) hS.lt0 hS.sh nk_2_6 rfl rfl ?_
      refine ev_iconst (pc1 := 83) (x := 1) (by decide) (TBof tbs_31 _ rfl) rfl ?_
      refine ev_istore_n (pc1 := 84) (L1 := [(1, .int 1), (0, .ref S), (2, .int v2)]) (by rw [ml_31]; decide) rfl (TBof tbs_31 _ rfl) rfl ?_
      refine ev_iinc (pc1 := 87) (n := 2) (c := 1) (x := v2) (cc := 1) (L1 := [(2, .int (v2 + 1)), (1, .int 1), (0, .ref S)]) rfl (by rw [ml_31]; decide) (by decide) rfl (TBof tbs_31 _ rfl) rfl ?_
      refine ev_goto (pc1 := 55) (TBof tbs_31 _ rfl) (by decide) ?_
      exact ev_le [2, 1, 0] rfl rfl H
set_option maxRecDepth 100000 in
theorem R_X2_hasAllHolders_0 {d : Nat} {S : Nat} {M : Im} {h : Hm} {D : Dm} {Q : Int32 → Im → Hm → Dm → Prop} (hS : St S) (H : EvI d nX2_hasAllHolders 2 [(0, .ref S), (1, .int 0)] [] M h D Q) : EvI d nX2_hasAllHolders 0 [(0, .ref S)] [] M h D Q := by
  refine ev_iconst (pc1 := 1) (x := 0) (by decide) (TBof tbs_32 _ rfl) rfl ?_
  refine ev_istore_n (pc1 := 2) (L1 := [(1, .int 0), (0, .ref S)]) (by rw [ml_32]; decide) rfl (TBof tbs_32 _ rfl) rfl ?_
  exact ev_le [1, 0] rfl rfl H
set_option maxRecDepth 100000 in
theorem R_X2_hasAllHolders_2 {d : Nat} {S : Nat} {v1 : Int32} {M : Im} {h : Hm} {D : Dm} {Q : Int32 → Im → Hm → Dm → Prop} (hS : St S) (H : (((M S 0) ≤ v1) → (Q 1 M h D)) ∧ (¬ ((M S 0) ≤ v1) → (vp_in v1 16 ∧ (((¬ ((M (S + 2) (v1.toNatClampNeg)) = 2)) → (EvI d nX2_hasAllHolders 2 [(0, .ref S), (1, .int (v1 + 1))] [] M h D Q)) ∧ (¬ (¬ ((M (S + 2) (v1.toNatClampNeg)) = 2)) → (vp_in v1 16 ∧ (CI d nX2_isThere [.ref S, .int (M (S + 3) (v1.toNatClampNeg))] M h D (fun x3 M3 h3 D3 => ((¬ (x3 = 0)) → (EvI d nX2_hasAllHolders 2 [(0, .ref S), (1, .int (v1 + 1))] [] M3 h3 D3 Q)) ∧ (¬ (¬ (x3 = 0)) → (Q 0 M3 h3 D3)))))))))) : EvI d nX2_hasAllHolders 2 [(0, .ref S), (1, .int v1)] [] M h D Q := by
  refine ev_iload_n (pc1 := 3) rfl (TBof tbs_32 _ rfl) rfl ?_
  refine ev_aload_n (pc1 := 4) rfl rfl (TBof tbs_32 _ rfl) rfl ?_
  refine ev_getI (pc1 := 7) (ci := 2) (k := 0) (TBof tbs_32 _ rfl) rfl (fldof mo_32 fl_2_36) hS.lt0 hS.sh nk_2_0 fi_2_0 ?_
  refine ev_icmp (pc1 := 10) (t := 41) (TBof tbs_32 _ rfl) (by decide) rfl (fun c1 => ?_) (fun c1 => ?_)
  · replace H := H.1 c1
    refine ev_iconst (pc1 := 42) (x := 1) (by decide) (TBof tbs_32 _ rfl) rfl ?_
    exact ev_ireturn (TBof tbs_32 _ rfl) (retI_z rt_32 (Or.inr rfl)) ⟨_, rfl, H⟩
  · replace H := H.2 c1
    refine ev_aload_n (pc1 := 11) rfl rfl (TBof tbs_32 _ rfl) rfl ?_
    refine ev_getP (pc1 := 14) (ci := 2) (k := 8) (a := (S + 2)) (TBof tbs_32 _ rfl) rfl (fldof mo_32 fl_2_15) hS.lt0 hS.sh nk_2_8 fp_2_8 hS.n28 hS.p8 ?_
    refine ev_iload_n (pc1 := 15) rfl (TBof tbs_32 _ rfl) rfl ?_
    refine ev_iaload (pc1 := 16) (n := 16) (TBof tbs_32 _ rfl) rfl (hS.lt (j := 2) (by decide)) hS.a2 H.1 ?_
    replace H := H.2
    refine ev_iconst (pc1 := 17) (x := 2) (by decide) (TBof tbs_32 _ rfl) rfl ?_
    refine ev_icmp (pc1 := 20) (t := 35) (TBof tbs_32 _ rfl) (by decide) rfl (fun c2 => ?_) (fun c2 => ?_)
    · replace H := H.1 c2
      refine ev_iinc (pc1 := 38) (n := 1) (c := 1) (x := v1) (cc := 1) (L1 := [(1, .int (v1 + 1)), (0, .ref S)]) rfl (by rw [ml_32]; decide) (by decide) rfl (TBof tbs_32 _ rfl) rfl ?_
      refine ev_goto (pc1 := 2) (TBof tbs_32 _ rfl) (by decide) ?_
      exact ev_le [1, 0] rfl rfl H
    · replace H := H.2 c2
      refine ev_aload_n (pc1 := 21) rfl rfl (TBof tbs_32 _ rfl) rfl ?_
      refine ev_aload_n (pc1 := 22) rfl rfl (TBof tbs_32 _ rfl) rfl ?_
      refine ev_getP (pc1 := 25) (ci := 2) (k := 9) (a := (S + 3)) (TBof tbs_32 _ rfl) rfl (fldof mo_32 fl_2_18) hS.lt0 hS.sh nk_2_9 fp_2_9 hS.n28 hS.p9 ?_
      refine ev_iload_n (pc1 := 26) rfl (TBof tbs_32 _ rfl) rfl ?_
      refine ev_iaload (pc1 := 27) (n := 16) (TBof tbs_32 _ rfl) rfl (hS.lt (j := 3) (by decide)) hS.a3 H.1 ?_
      replace H := H.2
      refine ev_callvI (pc1 := 30) (as := [.int (M (S + 3) (v1.toNatClampNeg))]) (r := []) (TBof tbs_32 _ rfl) rfl (lnkof mo_32 ln_2_65) rfl na_18 hS.lt0 (hS.sh.trans (by rw [mo_18])) (Nat.le_of_ble_eq_true rfl) H (fun x3 M3 h3 D3 H => ?_)
      refine ev_if (pc1 := 33) (t := 35) (TBof tbs_32 _ rfl) (by decide) rfl (fun c4 => ?_) (fun c4 => ?_)
      · replace H := H.1 c4
        refine ev_iinc (pc1 := 38) (n := 1) (c := 1) (x := v1) (cc := 1) (L1 := [(1, .int (v1 + 1)), (0, .ref S)]) rfl (by rw [ml_32]; decide) (by decide) rfl (TBof tbs_32 _ rfl) rfl ?_
        refine ev_goto (pc1 := 2) (TBof tbs_32 _ rfl) (by decide) ?_
        exact ev_le [1, 0] rfl rfl H
      · replace H := H.2 c4
        refine ev_iconst (pc1 := 34) (x := 0) (by decide) (TBof tbs_32 _ rfl) rfl ?_
        exact ev_ireturn (TBof tbs_32 _ rfl) (retI_z rt_32 (Or.inl rfl)) ⟨_, rfl, H⟩
set_option maxRecDepth 100000 in
theorem R_X2_openableNow_0 {d : Nat} {S : Nat} {M : Im} {h : Hm} {D : Dm} {Q : Int32 → Im → Hm → Dm → Prop} (hS : St S) (H : EvI d nX2_openableNow 4 [(0, .ref S), (1, .int 0), (2, .int 0)] [] M h D Q) : EvI d nX2_openableNow 0 [(0, .ref S)] [] M h D Q := by
  refine ev_iconst (pc1 := 1) (x := 0) (by decide) (TBof tbs_33 _ rfl) rfl ?_
  refine ev_istore_n (pc1 := 2) (L1 := [(1, .int 0), (0, .ref S)]) (by rw [ml_33]; decide) rfl (TBof tbs_33 _ rfl) rfl ?_
  refine ev_iconst (pc1 := 3) (x := 0) (by decide) (TBof tbs_33 _ rfl) rfl ?_
  refine ev_istore_n (pc1 := 4) (L1 := [(2, .int 0), (1, .int 0), (0, .ref S)]) (by rw [ml_33]; decide) rfl (TBof tbs_33 _ rfl) rfl ?_
  exact ev_le [2, 1, 0] rfl rfl H
set_option maxRecDepth 100000 in
theorem R_X2_openableNow_4 {d : Nat} {S : Nat} {v1 v2 : Int32} {M : Im} {h : Hm} {D : Dm} {Q : Int32 → Im → Hm → Dm → Prop} (hS : St S) (H : (((M S 0) ≤ v2) → (Q v1 M h D)) ∧ (¬ ((M S 0) ≤ v2) → (CI d nX2_canOpen [.ref S, .int v2] M h D (fun x2 M2 h2 D2 => ((x2 = 0) → (EvI d nX2_openableNow 4 [(0, .ref S), (1, .int v1), (2, .int (v2 + 1))] [] M2 h2 D2 Q)) ∧ (¬ (x2 = 0) → (CI d nX3_bit [.int v2] M2 h2 D2 (fun x4 M4 h4 D4 => EvI d nX2_openableNow 4 [(0, .ref S), (1, .int (v1 ||| x4)), (2, .int (v2 + 1))] [] M4 h4 D4 Q))))))) : EvI d nX2_openableNow 4 [(0, .ref S), (1, .int v1), (2, .int v2)] [] M h D Q := by
  refine ev_iload_n (pc1 := 5) rfl (TBof tbs_33 _ rfl) rfl ?_
  refine ev_aload_n (pc1 := 6) rfl rfl (TBof tbs_33 _ rfl) rfl ?_
  refine ev_getI (pc1 := 9) (ci := 2) (k := 0) (TBof tbs_33 _ rfl) rfl (fldof mo_33 fl_2_36) hS.lt0 hS.sh nk_2_0 fi_2_0 ?_
  refine ev_icmp (pc1 := 12) (t := 33) (TBof tbs_33 _ rfl) (by decide) rfl (fun c1 => ?_) (fun c1 => ?_)
  · replace H := H.1 c1
    refine ev_iload_n (pc1 := 34) rfl (TBof tbs_33 _ rfl) rfl ?_
    exact ev_ireturn (TBof tbs_33 _ rfl) (retI_i rt_33) ⟨_, rfl, H⟩
  · replace H := H.2 c1
    refine ev_aload_n (pc1 := 13) rfl rfl (TBof tbs_33 _ rfl) rfl ?_
    refine ev_iload_n (pc1 := 14) rfl (TBof tbs_33 _ rfl) rfl ?_
    refine ev_callvI (pc1 := 17) (as := [.int v2]) (r := []) (TBof tbs_33 _ rfl) rfl (lnkof mo_33 ln_2_96) rfl na_22 hS.lt0 (hS.sh.trans (by rw [mo_22])) (Nat.le_of_ble_eq_true rfl) H (fun x2 M2 h2 D2 H => ?_)
    refine ev_if (pc1 := 20) (t := 27) (TBof tbs_33 _ rfl) (by decide) rfl (fun c3 => ?_) (fun c3 => ?_)
    · replace H := H.1 c3
      refine ev_iinc (pc1 := 30) (n := 2) (c := 1) (x := v2) (cc := 1) (L1 := [(2, .int (v2 + 1)), (0, .ref S), (1, .int v1)]) rfl (by rw [ml_33]; decide) (by decide) rfl (TBof tbs_33 _ rfl) rfl ?_
      refine ev_goto (pc1 := 4) (TBof tbs_33 _ rfl) (by decide) ?_
      exact ev_le [1, 2, 0] rfl rfl H
    · replace H := H.2 c3
      refine ev_iload_n (pc1 := 21) rfl (TBof tbs_33 _ rfl) rfl ?_
      refine ev_iload_n (pc1 := 22) rfl (TBof tbs_33 _ rfl) rfl ?_
      refine ev_callsI (pc1 := 25) (as := [.int v2]) (r := [.int v1]) (TBof tbs_33 _ rfl) rfl (lnkof mo_33 ln_2_88) (Or.inr rfl) rfl na_60 (Nat.le_of_ble_eq_true rfl) H (fun x4 M4 h4 D4 H => ?_)
      refine ev_ior (pc1 := 26) (TBof tbs_33 _ rfl) rfl ?_
      refine ev_istore_n (pc1 := 27) (L1 := [(1, .int (v1 ||| x4)), (0, .ref S), (2, .int v2)]) (by rw [ml_33]; decide) rfl (TBof tbs_33 _ rfl) rfl ?_
      refine ev_iinc (pc1 := 30) (n := 2) (c := 1) (x := v2) (cc := 1) (L1 := [(2, .int (v2 + 1)), (1, .int (v1 ||| x4)), (0, .ref S)]) rfl (by rw [ml_33]; decide) (by decide) rfl (TBof tbs_33 _ rfl) rfl ?_
      refine ev_goto (pc1 := 4) (TBof tbs_33 _ rfl) (by decide) ?_
      exact ev_le [2, 1, 0] rfl rfl H
set_option maxRecDepth 100000 in
theorem R_X2_countWholeSeals_0 {d : Nat} {S : Nat} {v1 : Int32} {M : Im} {h : Hm} {D : Dm} {Q : Int32 → Im → Hm → Dm → Prop} (hS : St S) (H : EvI d nX2_countWholeSeals 4 [(0, .ref S), (1, .int v1), (2, .int 0), (3, .int 0)] [] M h D Q) : EvI d nX2_countWholeSeals 0 [(0, .ref S), (1, .int v1)] [] M h D Q := by
  refine ev_iconst (pc1 := 1) (x := 0) (by decide) (TBof tbs_34 _ rfl) rfl ?_
  refine ev_istore_n (pc1 := 2) (L1 := [(2, .int 0), (0, .ref S), (1, .int v1)]) (by rw [ml_34]; decide) rfl (TBof tbs_34 _ rfl) rfl ?_
  refine ev_iconst (pc1 := 3) (x := 0) (by decide) (TBof tbs_34 _ rfl) rfl ?_
  refine ev_istore_n (pc1 := 4) (L1 := [(3, .int 0), (2, .int 0), (0, .ref S), (1, .int v1)]) (by rw [ml_34]; decide) rfl (TBof tbs_34 _ rfl) rfl ?_
  exact ev_le [2, 3, 1, 0] rfl rfl H
set_option maxRecDepth 100000 in
theorem R_X2_countWholeSeals_4 {d : Nat} {S : Nat} {v1 v2 v3 : Int32} {M : Im} {h : Hm} {D : Dm} {Q : Int32 → Im → Hm → Dm → Prop} (hS : St S) (H : (((M S 0) ≤ v3) → (Q v2 M h D)) ∧ (¬ ((M S 0) ≤ v3) → (CI d nX3_isIn [.int v1, .int v3] M h D (fun x2 M2 h2 D2 => ((x2 = 0) → (EvI d nX2_countWholeSeals 4 [(0, .ref S), (1, .int v1), (2, .int v2), (3, .int (v3 + 1))] [] M2 h2 D2 Q)) ∧ (¬ (x2 = 0) → (vp_in v3 16 ∧ (((¬ ((M2 (S + 2) (v3.toNatClampNeg)) = 3)) → (EvI d nX2_countWholeSeals 4 [(0, .ref S), (1, .int v1), (2, .int v2), (3, .int (v3 + 1))] [] M2 h2 D2 Q)) ∧ (¬ (¬ ((M2 (S + 2) (v3.toNatClampNeg)) = 3)) → (CI d nX3_isIn [.int (M2 S 5), .int v3] M2 h2 D2 (fun x5 M5 h5 D5 => ((¬ (x5 = 0)) → (EvI d nX2_countWholeSeals 4 [(0, .ref S), (1, .int v1), (2, .int v2), (3, .int (v3 + 1))] [] M5 h5 D5 Q)) ∧ (¬ (¬ (x5 = 0)) → (EvI d nX2_countWholeSeals 4 [(0, .ref S), (1, .int v1), (2, .int (v2 + 1)), (3, .int (v3 + 1))] [] M5 h5 D5 Q)))))))))))) : EvI d nX2_countWholeSeals 4 [(0, .ref S), (1, .int v1), (2, .int v2), (3, .int v3)] [] M h D Q := by
  refine ev_iload_n (pc1 := 5) rfl (TBof tbs_34 _ rfl) rfl ?_
  refine ev_aload_n (pc1 := 6) rfl rfl (TBof tbs_34 _ rfl) rfl ?_
  refine ev_getI (pc1 := 9) (ci := 2) (k := 0) (TBof tbs_34 _ rfl) rfl (fldof mo_34 fl_2_36) hS.lt0 hS.sh nk_2_0 fi_2_0 ?_
  refine ev_icmp (pc1 := 12) (t := 50) (TBof tbs_34 _ rfl) (by decide) rfl (fun c1 => ?_) (fun c1 => ?_)
  · replace H := H.1 c1
    refine ev_iload_n (pc1 := 51) rfl (TBof tbs_34 _ rfl) rfl ?_
    exact ev_ireturn (TBof tbs_34 _ rfl) (retI_i rt_34) ⟨_, rfl, H⟩
  · replace H := H.2 c1
    refine ev_iload_n (pc1 := 13) rfl (TBof tbs_34 _ rfl) rfl ?_
    refine ev_iload_n (pc1 := 14) rfl (TBof tbs_34 _ rfl) rfl ?_
    refine ev_callsI (pc1 := 17) (as := [.int v1, .int v3]) (r := []) (TBof tbs_34 _ rfl) rfl (lnkof mo_34 ln_2_84) (Or.inr rfl) rfl na_61 (Nat.le_of_ble_eq_true rfl) H (fun x2 M2 h2 D2 H => ?_)
    refine ev_if (pc1 := 20) (t := 44) (TBof tbs_34 _ rfl) (by decide) rfl (fun c3 => ?_) (fun c3 => ?_)
    · replace H := H.1 c3
      refine ev_iinc (pc1 := 47) (n := 3) (c := 1) (x := v3) (cc := 1) (L1 := [(3, .int (v3 + 1)), (0, .ref S), (1, .int v1), (2, .int v2)]) rfl (by rw [ml_34]; decide) (by decide) rfl (TBof tbs_34 _ rfl) rfl ?_
      refine ev_goto (pc1 := 4) (TBof tbs_34 _ rfl) (by decide) ?_
      exact ev_le [1, 2, 3, 0] rfl rfl H
    · replace H := H.2 c3
      refine ev_aload_n (pc1 := 21) rfl rfl (TBof tbs_34 _ rfl) rfl ?_
      refine ev_getP (pc1 := 24) (ci := 2) (k := 8) (a := (S + 2)) (TBof tbs_34 _ rfl) rfl (fldof mo_34 fl_2_15) hS.lt0 hS.sh nk_2_8 fp_2_8 hS.n28 hS.p8 ?_
      refine ev_iload_n (pc1 := 25) rfl (TBof tbs_34 _ rfl) rfl ?_
      refine ev_iaload (pc1 := 26) (n := 16) (TBof tbs_34 _ rfl) rfl (hS.lt (j := 2) (by decide)) hS.a2 H.1 ?_
      replace H := H.2
      refine ev_iconst (pc1 := 27) (x := 3) (by decide) (TBof tbs_34 _ rfl) rfl ?_
      refine ev_icmp (pc1 := 30) (t := 44) (TBof tbs_34 _ rfl) (by decide) rfl (fun c4 => ?_) (fun c4 => ?_)
      · replace H := H.1 c4
        refine ev_iinc (pc1 := 47) (n := 3) (c := 1) (x := v3) (cc := 1) (L1 := [(3, .int (v3 + 1)), (0, .ref S), (1, .int v1), (2, .int v2)]) rfl (by rw [ml_34]; decide) (by decide) rfl (TBof tbs_34 _ rfl) rfl ?_
        refine ev_goto (pc1 := 4) (TBof tbs_34 _ rfl) (by decide) ?_
        exact ev_le [1, 2, 3, 0] rfl rfl H
      · replace H := H.2 c4
        refine ev_aload_n (pc1 := 31) rfl rfl (TBof tbs_34 _ rfl) rfl ?_
        refine ev_getI (pc1 := 34) (ci := 2) (k := 5) (TBof tbs_34 _ rfl) rfl (fldof mo_34 fl_2_53) hS.lt0 hS.sh nk_2_5 fi_2_5 ?_
        refine ev_iload_n (pc1 := 35) rfl (TBof tbs_34 _ rfl) rfl ?_
        refine ev_callsI (pc1 := 38) (as := [.int (M2 S 5), .int v3]) (r := []) (TBof tbs_34 _ rfl) rfl (lnkof mo_34 ln_2_84) (Or.inr rfl) rfl na_61 (Nat.le_of_ble_eq_true rfl) H (fun x5 M5 h5 D5 H => ?_)
        refine ev_if (pc1 := 41) (t := 44) (TBof tbs_34 _ rfl) (by decide) rfl (fun c6 => ?_) (fun c6 => ?_)
        · replace H := H.1 c6
          refine ev_iinc (pc1 := 47) (n := 3) (c := 1) (x := v3) (cc := 1) (L1 := [(3, .int (v3 + 1)), (0, .ref S), (1, .int v1), (2, .int v2)]) rfl (by rw [ml_34]; decide) (by decide) rfl (TBof tbs_34 _ rfl) rfl ?_
          refine ev_goto (pc1 := 4) (TBof tbs_34 _ rfl) (by decide) ?_
          exact ev_le [1, 2, 3, 0] rfl rfl H
        · replace H := H.2 c6
          refine ev_iinc (pc1 := 44) (n := 2) (c := 1) (x := v2) (cc := 1) (L1 := [(2, .int (v2 + 1)), (0, .ref S), (1, .int v1), (3, .int v3)]) rfl (by rw [ml_34]; decide) (by decide) rfl (TBof tbs_34 _ rfl) rfl ?_
          refine ev_iinc (pc1 := 47) (n := 3) (c := 1) (x := v3) (cc := 1) (L1 := [(3, .int (v3 + 1)), (2, .int (v2 + 1)), (0, .ref S), (1, .int v1)]) rfl (by rw [ml_34]; decide) (by decide) rfl (TBof tbs_34 _ rfl) rfl ?_
          refine ev_goto (pc1 := 4) (TBof tbs_34 _ rfl) (by decide) ?_
          exact ev_le [2, 3, 1, 0] rfl rfl H
set_option maxRecDepth 100000 in
theorem R_X2_countThingsInDrawers_0 {d : Nat} {S : Nat} {M : Im} {h : Hm} {D : Dm} {Q : Int32 → Im → Hm → Dm → Prop} (hS : St S) (H : EvI d nX2_countThingsInDrawers 4 [(0, .ref S), (1, .int 0), (2, .int 0)] [] M h D Q) : EvI d nX2_countThingsInDrawers 0 [(0, .ref S)] [] M h D Q := by
  refine ev_iconst (pc1 := 1) (x := 0) (by decide) (TBof tbs_35 _ rfl) rfl ?_
  refine ev_istore_n (pc1 := 2) (L1 := [(1, .int 0), (0, .ref S)]) (by rw [ml_35]; decide) rfl (TBof tbs_35 _ rfl) rfl ?_
  refine ev_iconst (pc1 := 3) (x := 0) (by decide) (TBof tbs_35 _ rfl) rfl ?_
  refine ev_istore_n (pc1 := 4) (L1 := [(2, .int 0), (1, .int 0), (0, .ref S)]) (by rw [ml_35]; decide) rfl (TBof tbs_35 _ rfl) rfl ?_
  exact ev_le [2, 1, 0] rfl rfl H
set_option maxRecDepth 100000 in
theorem R_X2_countThingsInDrawers_4 {d : Nat} {S : Nat} {v1 v2 : Int32} {M : Im} {h : Hm} {D : Dm} {Q : Int32 → Im → Hm → Dm → Prop} (hS : St S) (H : ((12 ≤ v2) → (Q v1 M h D)) ∧ (¬ (12 ≤ v2) → (vp_in v2 12 ∧ (CI d nX2_isThere [.ref S, .int (M (S + 7) (v2.toNatClampNeg))] M h D (fun x2 M2 h2 D2 => ((x2 = 0) → (EvI d nX2_countThingsInDrawers 4 [(0, .ref S), (1, .int v1), (2, .int (v2 + 1))] [] M2 h2 D2 Q)) ∧ (¬ (x2 = 0) → (EvI d nX2_countThingsInDrawers 4 [(0, .ref S), (1, .int (v1 + 1)), (2, .int (v2 + 1))] [] M2 h2 D2 Q))))))) : EvI d nX2_countThingsInDrawers 4 [(0, .ref S), (1, .int v1), (2, .int v2)] [] M h D Q := by
  refine ev_iload_n (pc1 := 5) rfl (TBof tbs_35 _ rfl) rfl ?_
  refine ev_bipush (pc1 := 7) (x := 12) (by decide) (TBof tbs_35 _ rfl) rfl ?_
  refine ev_icmp (pc1 := 10) (t := 32) (TBof tbs_35 _ rfl) (by decide) rfl (fun c1 => ?_) (fun c1 => ?_)
  · replace H := H.1 c1
    refine ev_iload_n (pc1 := 33) rfl (TBof tbs_35 _ rfl) rfl ?_
    exact ev_ireturn (TBof tbs_35 _ rfl) (retI_i rt_35) ⟨_, rfl, H⟩
  · replace H := H.2 c1
    refine ev_aload_n (pc1 := 11) rfl rfl (TBof tbs_35 _ rfl) rfl ?_
    refine ev_aload_n (pc1 := 12) rfl rfl (TBof tbs_35 _ rfl) rfl ?_
    refine ev_getP (pc1 := 15) (ci := 2) (k := 13) (a := (S + 7)) (TBof tbs_35 _ rfl) rfl (fldof mo_35 fl_2_30) hS.lt0 hS.sh nk_2_13 fp_2_13 hS.n28 hS.p13 ?_
    refine ev_iload_n (pc1 := 16) rfl (TBof tbs_35 _ rfl) rfl ?_
    refine ev_iaload (pc1 := 17) (n := 12) (TBof tbs_35 _ rfl) rfl (hS.lt (j := 7) (by decide)) hS.a7 H.1 ?_
    replace H := H.2
    refine ev_callvI (pc1 := 20) (as := [.int (M (S + 7) (v2.toNatClampNeg))]) (r := []) (TBof tbs_35 _ rfl) rfl (lnkof mo_35 ln_2_65) rfl na_18 hS.lt0 (hS.sh.trans (by rw [mo_18])) (Nat.le_of_ble_eq_true rfl) H (fun x2 M2 h2 D2 H => ?_)
    refine ev_if (pc1 := 23) (t := 26) (TBof tbs_35 _ rfl) (by decide) rfl (fun c3 => ?_) (fun c3 => ?_)
    · replace H := H.1 c3
      refine ev_iinc (pc1 := 29) (n := 2) (c := 1) (x := v2) (cc := 1) (L1 := [(2, .int (v2 + 1)), (0, .ref S), (1, .int v1)]) rfl (by rw [ml_35]; decide) (by decide) rfl (TBof tbs_35 _ rfl) rfl ?_
      refine ev_goto (pc1 := 4) (TBof tbs_35 _ rfl) (by decide) ?_
      exact ev_le [1, 2, 0] rfl rfl H
    · replace H := H.2 c3
      refine ev_iinc (pc1 := 26) (n := 1) (c := 1) (x := v1) (cc := 1) (L1 := [(1, .int (v1 + 1)), (0, .ref S), (2, .int v2)]) rfl (by rw [ml_35]; decide) (by decide) rfl (TBof tbs_35 _ rfl) rfl ?_
      refine ev_iinc (pc1 := 29) (n := 2) (c := 1) (x := v2) (cc := 1) (L1 := [(2, .int (v2 + 1)), (1, .int (v1 + 1)), (0, .ref S)]) rfl (by rw [ml_35]; decide) (by decide) rfl (TBof tbs_35 _ rfl) rfl ?_
      refine ev_goto (pc1 := 4) (TBof tbs_35 _ rfl) (by decide) ?_
      exact ev_le [2, 1, 0] rfl rfl H
set_option maxRecDepth 100000 in
theorem R_X2_countThingsIn_0 {d : Nat} {S : Nat} {v1 : Int32} {M : Im} {h : Hm} {D : Dm} {Q : Int32 → Im → Hm → Dm → Prop} (hS : St S) (H : EvI d nX2_countThingsIn 4 [(0, .ref S), (1, .int v1), (2, .int 0), (3, .int 0)] [] M h D Q) : EvI d nX2_countThingsIn 0 [(0, .ref S), (1, .int v1)] [] M h D Q := by
  refine ev_iconst (pc1 := 1) (x := 0) (by decide) (TBof tbs_36 _ rfl) rfl ?_
  refine ev_istore_n (pc1 := 2) (L1 := [(2, .int 0), (0, .ref S), (1, .int v1)]) (by rw [ml_36]; decide) rfl (TBof tbs_36 _ rfl) rfl ?_
  refine ev_iconst (pc1 := 3) (x := 0) (by decide) (TBof tbs_36 _ rfl) rfl ?_
  refine ev_istore_n (pc1 := 4) (L1 := [(3, .int 0), (2, .int 0), (0, .ref S), (1, .int v1)]) (by rw [ml_36]; decide) rfl (TBof tbs_36 _ rfl) rfl ?_
  exact ev_le [2, 3, 1, 0] rfl rfl H
set_option maxRecDepth 100000 in
theorem R_X2_countThingsIn_4 {d : Nat} {S : Nat} {v1 v2 v3 : Int32} {M : Im} {h : Hm} {D : Dm} {Q : Int32 → Im → Hm → Dm → Prop} (hS : St S) (H : ((12 ≤ v3) → (Q v2 M h D)) ∧ (¬ (12 ≤ v3) → (vp_in v3 12 ∧ (((¬ ((M (S + 7) (v3.toNatClampNeg)) = v1)) → (EvI d nX2_countThingsIn 4 [(0, .ref S), (1, .int v1), (2, .int v2), (3, .int (v3 + 1))] [] M h D Q)) ∧ (¬ (¬ ((M (S + 7) (v3.toNatClampNeg)) = v1)) → (CI d nX2_isInHand [.ref S, .int v3] M h D (fun x3 M3 h3 D3 => ((¬ (x3 = 0)) → (EvI d nX2_countThingsIn 4 [(0, .ref S), (1, .int v1), (2, .int v2), (3, .int (v3 + 1))] [] M3 h3 D3 Q)) ∧ (¬ (¬ (x3 = 0)) → (EvI d nX2_countThingsIn 4 [(0, .ref S), (1, .int v1), (2, .int (v2 + 1)), (3, .int (v3 + 1))] [] M3 h3 D3 Q))))))))) : EvI d nX2_countThingsIn 4 [(0, .ref S), (1, .int v1), (2, .int v2), (3, .int v3)] [] M h D Q := by
  refine ev_iload_n (pc1 := 5) rfl (TBof tbs_36 _ rfl) rfl ?_
  refine ev_bipush (pc1 := 7) (x := 12) (by decide) (TBof tbs_36 _ rfl) rfl ?_
  refine ev_icmp (pc1 := 10) (t := 37) (TBof tbs_36 _ rfl) (by decide) rfl (fun c1 => ?_) (fun c1 => ?_)
  · replace H := H.1 c1
    refine ev_iload_n (pc1 := 38) rfl (TBof tbs_36 _ rfl) rfl ?_
    exact ev_ireturn (TBof tbs_36 _ rfl) (retI_i rt_36) ⟨_, rfl, H⟩
  · replace H := H.2 c1
    refine ev_aload_n (pc1 := 11) rfl rfl (TBof tbs_36 _ rfl) rfl ?_
    refine ev_getP (pc1 := 14) (ci := 2) (k := 13) (a := (S + 7)) (TBof tbs_36 _ rfl) rfl (fldof mo_36 fl_2_30) hS.lt0 hS.sh nk_2_13 fp_2_13 hS.n28 hS.p13 ?_
    refine ev_iload_n (pc1 := 15) rfl (TBof tbs_36 _ rfl) rfl ?_
    refine ev_iaload (pc1 := 16) (n := 12) (TBof tbs_36 _ rfl) rfl (hS.lt (j := 7) (by decide)) hS.a7 H.1 ?_
    replace H := H.2
    refine ev_iload_n (pc1 := 17) rfl (TBof tbs_36 _ rfl) rfl ?_
    refine ev_icmp (pc1 := 20) (t := 31) (TBof tbs_36 _ rfl) (by decide) rfl (fun c2 => ?_) (fun c2 => ?_)
    · replace H := H.1 c2
      refine ev_iinc (pc1 := 34) (n := 3) (c := 1) (x := v3) (cc := 1) (L1 := [(3, .int (v3 + 1)), (0, .ref S), (1, .int v1), (2, .int v2)]) rfl (by rw [ml_36]; decide) (by decide) rfl (TBof tbs_36 _ rfl) rfl ?_
      refine ev_goto (pc1 := 4) (TBof tbs_36 _ rfl) (by decide) ?_
      exact ev_le [1, 2, 3, 0] rfl rfl H
    · replace H := H.2 c2
      refine ev_aload_n (pc1 := 21) rfl rfl (TBof tbs_36 _ rfl) rfl ?_
      refine ev_iload_n (pc1 := 22) rfl (TBof tbs_36 _ rfl) rfl ?_
      refine ev_callvI (pc1 := 25) (as := [.int v3]) (r := []) (TBof tbs_36 _ rfl) rfl (lnkof mo_36 ln_2_78) rfl na_20 hS.lt0 (hS.sh.trans (by rw [mo_20])) (Nat.le_of_ble_eq_true rfl) H (fun x3 M3 h3 D3 H => ?_)
      refine ev_if (pc1 := 28) (t := 31) (TBof tbs_36 _ rfl) (by decide) rfl (fun c4 => ?_) (fun c4 => ?_)
      · replace H := H.1 c4
        refine ev_iinc (pc1 := 34) (n := 3) (c := 1) (x := v3) (cc := 1) (L1 := [(3, .int (v3 + 1)), (0, .ref S), (1, .int v1), (2, .int v2)]) rfl (by rw [ml_36]; decide) (by decide) rfl (TBof tbs_36 _ rfl) rfl ?_
        refine ev_goto (pc1 := 4) (TBof tbs_36 _ rfl) (by decide) ?_
        exact ev_le [1, 2, 3, 0] rfl rfl H
      · replace H := H.2 c4
        refine ev_iinc (pc1 := 31) (n := 2) (c := 1) (x := v2) (cc := 1) (L1 := [(2, .int (v2 + 1)), (0, .ref S), (1, .int v1), (3, .int v3)]) rfl (by rw [ml_36]; decide) (by decide) rfl (TBof tbs_36 _ rfl) rfl ?_
        refine ev_iinc (pc1 := 34) (n := 3) (c := 1) (x := v3) (cc := 1) (L1 := [(3, .int (v3 + 1)), (2, .int (v2 + 1)), (0, .ref S), (1, .int v1)]) rfl (by rw [ml_36]; decide) (by decide) rfl (TBof tbs_36 _ rfl) rfl ?_
        refine ev_goto (pc1 := 4) (TBof tbs_36 _ rfl) (by decide) ?_
        exact ev_le [2, 3, 1, 0] rfl rfl H
set_option maxRecDepth 100000 in
theorem R_X2_countOuters_0 {d : Nat} {S : Nat} {v1 : Int32} {M : Im} {h : Hm} {D : Dm} {Q : Int32 → Im → Hm → Dm → Prop} (hS : St S) (H : vp_in v1 16 ∧ (EvI d nX2_countOuters 9 [(0, .ref S), (1, .int v1), (2, .int (M (S + 1) (v1.toNatClampNeg))), (3, .int 0)] [] M h D Q)) : EvI d nX2_countOuters 0 [(0, .ref S), (1, .int v1)] [] M h D Q := by
  refine ev_aload_n (pc1 := 1) rfl rfl (TBof tbs_37 _ rfl) rfl ?_
  refine ev_getP (pc1 := 4) (ci := 2) (k := 7) (a := (S + 1)) (TBof tbs_37 _ rfl) rfl (fldof mo_37 fl_2_9) hS.lt0 hS.sh nk_2_7 fp_2_7 hS.n28 hS.p7 ?_
  refine ev_iload_n (pc1 := 5) rfl (TBof tbs_37 _ rfl) rfl ?_
  refine ev_iaload (pc1 := 6) (n := 16) (TBof tbs_37 _ rfl) rfl (hS.lt (j := 1) (by decide)) hS.a1 H.1 ?_
  replace H := H.2
  refine ev_istore_n (pc1 := 7) (L1 := [(2, .int (M (S + 1) (v1.toNatClampNeg))), (0, .ref S), (1, .int v1)]) (by rw [ml_37]; decide) rfl (TBof tbs_37 _ rfl) rfl ?_
  refine ev_iconst (pc1 := 8) (x := 0) (by decide) (TBof tbs_37 _ rfl) rfl ?_
  refine ev_istore_n (pc1 := 9) (L1 := [(3, .int 0), (2, .int (M (S + 1) (v1.toNatClampNeg))), (0, .ref S), (1, .int v1)]) (by rw [ml_37]; decide) rfl (TBof tbs_37 _ rfl) rfl ?_
  exact ev_le [2, 3, 1, 0] rfl rfl H
set_option maxRecDepth 100000 in
theorem R_X2_countOuters_9 {d : Nat} {S : Nat} {v1 v2 v3 : Int32} {M : Im} {h : Hm} {D : Dm} {Q : Int32 → Im → Hm → Dm → Prop} (hS : St S) (H : ((16 ≤ v3) → (Q v3 M h D)) ∧ (¬ (16 ≤ v3) → (CI d nX2_isThere [.ref S, .int v2] M h D (fun x2 M2 h2 D2 => ((x2 = 0) → (Q v3 M2 h2 D2)) ∧ (¬ (x2 = 0) → (vp_in v2 16 ∧ (EvI d nX2_countOuters 9 [(0, .ref S), (1, .int v1), (2, .int (M2 (S + 1) (v2.toNatClampNeg))), (3, .int (v3 + 1))] [] M2 h2 D2 Q))))))) : EvI d nX2_countOuters 9 [(0, .ref S), (1, .int v1), (2, .int v2), (3, .int v3)] [] M h D Q := by
  refine ev_iload_n (pc1 := 10) rfl (TBof tbs_37 _ rfl) rfl ?_
  refine ev_bipush (pc1 := 12) (x := 16) (by decide) (TBof tbs_37 _ rfl) rfl ?_
  refine ev_icmp (pc1 := 15) (t := 36) (TBof tbs_37 _ rfl) (by decide) rfl (fun c1 => ?_) (fun c1 => ?_)
  · replace H := H.1 c1
    refine ev_iload_n (pc1 := 37) rfl (TBof tbs_37 _ rfl) rfl ?_
    exact ev_ireturn (TBof tbs_37 _ rfl) (retI_i rt_37) ⟨_, rfl, H⟩
  · replace H := H.2 c1
    refine ev_aload_n (pc1 := 16) rfl rfl (TBof tbs_37 _ rfl) rfl ?_
    refine ev_iload_n (pc1 := 17) rfl (TBof tbs_37 _ rfl) rfl ?_
    refine ev_callvI (pc1 := 20) (as := [.int v2]) (r := []) (TBof tbs_37 _ rfl) rfl (lnkof mo_37 ln_2_65) rfl na_18 hS.lt0 (hS.sh.trans (by rw [mo_18])) (Nat.le_of_ble_eq_true rfl) H (fun x2 M2 h2 D2 H => ?_)
    refine ev_if (pc1 := 23) (t := 36) (TBof tbs_37 _ rfl) (by decide) rfl (fun c3 => ?_) (fun c3 => ?_)
    · replace H := H.1 c3
      refine ev_iload_n (pc1 := 37) rfl (TBof tbs_37 _ rfl) rfl ?_
      exact ev_ireturn (TBof tbs_37 _ rfl) (retI_i rt_37) ⟨_, rfl, H⟩
    · replace H := H.2 c3
      refine ev_iinc (pc1 := 26) (n := 3) (c := 1) (x := v3) (cc := 1) (L1 := [(3, .int (v3 + 1)), (0, .ref S), (1, .int v1), (2, .int v2)]) rfl (by rw [ml_37]; decide) (by decide) rfl (TBof tbs_37 _ rfl) rfl ?_
      refine ev_aload_n (pc1 := 27) rfl rfl (TBof tbs_37 _ rfl) rfl ?_
      refine ev_getP (pc1 := 30) (ci := 2) (k := 7) (a := (S + 1)) (TBof tbs_37 _ rfl) rfl (fldof mo_37 fl_2_9) hS.lt0 hS.sh nk_2_7 fp_2_7 hS.n28 hS.p7 ?_
      refine ev_iload_n (pc1 := 31) rfl (TBof tbs_37 _ rfl) rfl ?_
      refine ev_iaload (pc1 := 32) (n := 16) (TBof tbs_37 _ rfl) rfl (hS.lt (j := 1) (by decide)) hS.a1 H.1 ?_
      replace H := H.2
      refine ev_istore_n (pc1 := 33) (L1 := [(2, .int (M2 (S + 1) (v2.toNatClampNeg))), (3, .int (v3 + 1)), (0, .ref S), (1, .int v1)]) (by rw [ml_37]; decide) rfl (TBof tbs_37 _ rfl) rfl ?_
      refine ev_goto (pc1 := 9) (TBof tbs_37 _ rfl) (by decide) ?_
      exact ev_le [2, 3, 0, 1] rfl rfl H

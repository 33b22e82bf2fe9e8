/-! what each block of the law asks: law -/
set_option maxRecDepth 100000 in
theorem R_L_law_8 {Lb : Nat} {xs : Nat → Int32} {c : Nat} {A : Ab} {Q : Int32 → Ab → Prop} (hLb : Lb ≤ 260) (hc : c ≤ 400) (hw : wfA c A) (H : ∀ (x1 : Int32) (A1 : Ab), opBegin A = (x1, A1) → (((¬ (x1 = (-4))) → (EA (some (Lb, xs)) (9) nL_law 78 [(0, .retAddr 0), (1, .ref 0), (2, .int 0), (3, .int (opCount (nOf A1.1.1) A1 7)), (4, .int 0)] [] A1 Q)) ∧ (¬ (¬ (x1 = (-4))) → (∀ (x4 : Int32) (A4 : Ab), opUndo A1 = (x4, A4) → (((¬ (x4 = (-5))) → (EA (some (Lb, xs)) (9) nL_law 78 [(0, .retAddr 0), (1, .ref 0), (2, .int 0), (3, .int (opCount (nOf A4.1.1) A4 7)), (4, .int 0)] [] A4 Q)) ∧ (¬ (¬ (x4 = (-5))) → (CA (some (Lb, xs)) (9) nL_builds [.ref 0, .retAddr 0] A4 (fun x7 A7 => ∃ c7, c7 ≤ 400 ∧ wfA c7 A7 ∧ (((x7 = 0) → (EA (some (Lb, xs)) (9) nL_law 78 [(0, .retAddr 0), (1, .ref 0), (2, .int 0), (3, .int (opCount (nOf A7.1.1) A7 7)), (4, .int 0)] [] A7 Q)) ∧ (¬ (x7 = 0) → (∀ (x10 : Int32) (A10 : Ab), opBegin A7 = (x10, A10) → (((¬ (x10 = (opCount (nOf A10.1.1) A10 0))) → (EA (some (Lb, xs)) (9) nL_law 78 [(0, .retAddr 0), (1, .ref 0), (2, .int 0), (3, .int (opCount (nOf A10.1.1) A10 7)), (4, .int 0)] [] A10 Q)) ∧ (¬ (¬ (x10 = (opCount (nOf A10.1.1) A10 0))) → (((¬ ((Op.cmpValue (FP.dcmp (mnd A10.1.1 A10.1.2) FP.dconst0) CmpOp.l) = 0)) → (EA (some (Lb, xs)) (9) nL_law 78 [(0, .retAddr 0), (1, .ref 0), (2, .int 0), (3, .int (opCount (nOf A10.1.1) A10 7)), (4, .int 0)] [] A10 Q)) ∧ (¬ (¬ ((Op.cmpValue (FP.dcmp (mnd A10.1.1 A10.1.2) FP.dconst0) CmpOp.l) = 0)) → (((¬ ((mnb A10.1.1 A10.1.2) = 0)) → (EA (some (Lb, xs)) (9) nL_law 78 [(0, .retAddr 0), (1, .ref 0), (2, .int 0), (3, .int (opCount (nOf A10.1.1) A10 7)), (4, .int 0)] [] A10 Q)) ∧ (¬ (¬ ((mnb A10.1.1 A10.1.2) = 0)) → (EA (some (Lb, xs)) (9) nL_law 78 [(0, .retAddr 0), (1, .ref 0), (2, .int 1), (3, .int (opCount (nOf A10.1.1) A10 7)), (4, .int 0)] [] A10 Q)))))))))))))))))) : EA (some (Lb, xs)) (9) nL_law 8 [(1, .ref 0), (0, .retAddr 0)] [] A Q := by
  intro M h D hI
  refine ev_aload_n (pc1 := 9) rfl rfl (TBof tbs_77 _ rfl) rfl ?_
  refine ev_callvI (pc1 := 12) (as := []) (r := []) (TBof tbs_77 _ rfl) rfl (lnkof mo_77 ln_7_74) rfl na_42 ltc_0 (sh_0.trans (by rw [mo_42])) (Nat.le_of_ble_eq_true rfl) (CN_begin hw hI) (fun x1 M1 h1 D1 ⟨A1, q1, hI, hw⟩ => ?_)
  replace H := H x1 A1 q1
  refine ev_bipush (pc1 := 14) (x := (-4)) (by decide) (TBof tbs_77 _ rfl) rfl ?_
  refine ev_icmp (pc1 := 17) (t := 66) (TBof tbs_77 _ rfl) (by decide) rfl (fun c2 => ?_) (fun c2 => ?_)
  · replace H := H.1 c2
    refine ev_iconst (pc1 := 67) (x := 0) (by decide) (TBof tbs_77 _ rfl) rfl ?_
    refine ev_istore_n (pc1 := 68) (L1 := [(2, .int 0), (1, .ref 0), (0, .retAddr 0)]) (by rw [ml_77]; decide) rfl (TBof tbs_77 _ rfl) rfl ?_
    refine ev_aload_n (pc1 := 69) rfl rfl (TBof tbs_77 _ rfl) rfl ?_
    refine ev_bipush (pc1 := 71) (x := 7) (by decide) (TBof tbs_77 _ rfl) rfl ?_
    refine ev_callvI (pc1 := 74) (as := [.int 7]) (r := []) (TBof tbs_77 _ rfl) rfl (lnkof mo_77 ln_7_24) rfl na_56 ltc_0 (sh_0.trans (by rw [mo_56])) (Nat.le_of_ble_eq_true rfl) (CN_count hw hI) (fun x3 M3 h3 D3 ⟨e3, hI⟩ => ?_)
    subst e3
    refine ev_istore_n (pc1 := 75) (L1 := [(3, .int (opCount (nOf A1.1.1) A1 7)), (2, .int 0), (1, .ref 0), (0, .retAddr 0)]) (by rw [ml_77]; decide) rfl (TBof tbs_77 _ rfl) rfl ?_
    refine ev_iconst (pc1 := 76) (x := 0) (by decide) (TBof tbs_77 _ rfl) rfl ?_
    refine ev_istore (pc1 := 78) (L1 := [(4, .int 0), (3, .int (opCount (nOf A1.1.1) A1 7)), (2, .int 0), (1, .ref 0), (0, .retAddr 0)]) (by rw [ml_77]; decide) rfl (TBof tbs_77 _ rfl) rfl ?_
    exact ev_le [4, 3, 2, 1, 0] rfl rfl (H _ _ _ hI)
  · replace H := H.2 c2
    refine ev_aload_n (pc1 := 18) rfl rfl (TBof tbs_77 _ rfl) rfl ?_
    refine ev_callvI (pc1 := 21) (as := []) (r := []) (TBof tbs_77 _ rfl) rfl (lnkof mo_77 ln_7_78) rfl na_49 ltc_0 (sh_0.trans (by rw [mo_49])) (Nat.le_of_ble_eq_true rfl) (CN_undo hw hI) (fun x4 M4 h4 D4 ⟨A4, q4, hI, hw⟩ => ?_)
    replace H := H x4 A4 q4
    refine ev_bipush (pc1 := 23) (x := (-5)) (by decide) (TBof tbs_77 _ rfl) rfl ?_
    refine ev_icmp (pc1 := 26) (t := 66) (TBof tbs_77 _ rfl) (by decide) rfl (fun c5 => ?_) (fun c5 => ?_)
    · replace H := H.1 c5
      refine ev_iconst (pc1 := 67) (x := 0) (by decide) (TBof tbs_77 _ rfl) rfl ?_
      refine ev_istore_n (pc1 := 68) (L1 := [(2, .int 0), (1, .ref 0), (0, .retAddr 0)]) (by rw [ml_77]; decide) rfl (TBof tbs_77 _ rfl) rfl ?_
      refine ev_aload_n (pc1 := 69) rfl rfl (TBof tbs_77 _ rfl) rfl ?_
      refine ev_bipush (pc1 := 71) (x := 7) (by decide) (TBof tbs_77 _ rfl) rfl ?_
      refine ev_callvI (pc1 := 74) (as := [.int 7]) (r := []) (TBof tbs_77 _ rfl) rfl (lnkof mo_77 ln_7_24) rfl na_56 ltc_0 (sh_0.trans (by rw [mo_56])) (Nat.le_of_ble_eq_true rfl) (CN_count hw hI) (fun x6 M6 h6 D6 ⟨e6, hI⟩ => ?_)
      subst e6
      refine ev_istore_n (pc1 := 75) (L1 := [(3, .int (opCount (nOf A4.1.1) A4 7)), (2, .int 0), (1, .ref 0), (0, .retAddr 0)]) (by rw [ml_77]; decide) rfl (TBof tbs_77 _ rfl) rfl ?_
      refine ev_iconst (pc1 := 76) (x := 0) (by decide) (TBof tbs_77 _ rfl) rfl ?_
      refine ev_istore (pc1 := 78) (L1 := [(4, .int 0), (3, .int (opCount (nOf A4.1.1) A4 7)), (2, .int 0), (1, .ref 0), (0, .retAddr 0)]) (by rw [ml_77]; decide) rfl (TBof tbs_77 _ rfl) rfl ?_
      exact ev_le [4, 3, 2, 1, 0] rfl rfl (H _ _ _ hI)
    · replace H := H.2 c5
      refine ev_aload_n (pc1 := 27) rfl rfl (TBof tbs_77 _ rfl) rfl ?_
      refine ev_aload_n (pc1 := 28) rfl rfl (TBof tbs_77 _ rfl) rfl ?_
      refine ev_callsS (pc1 := 31) (as := [.ref 0, .retAddr 0]) (r := []) (TBof tbs_77 _ rfl) rfl (lnkof mo_77 ln_7_81) (Or.inl rfl) rfl na_74 (Nat.le_of_ble_eq_true rfl) (H _ _ _ hI) (fun x7 M7 h7 D7 ⟨A7, H, hI⟩ => ?_)
      obtain ⟨c7, hc7, hw, H⟩ := H
      refine ev_if (pc1 := 34) (t := 66) (TBof tbs_77 _ rfl) (by decide) rfl (fun c8 => ?_) (fun c8 => ?_)
      · replace H := H.1 c8
        refine ev_iconst (pc1 := 67) (x := 0) (by decide) (TBof tbs_77 _ rfl) rfl ?_
        refine ev_istore_n (pc1 := 68) (L1 := [(2, .int 0), (1, .ref 0), (0, .retAddr 0)]) (by rw [ml_77]; decide) rfl (TBof tbs_77 _ rfl) rfl ?_
        refine ev_aload_n (pc1 := 69) rfl rfl (TBof tbs_77 _ rfl) rfl ?_
        refine ev_bipush (pc1 := 71) (x := 7) (by decide) (TBof tbs_77 _ rfl) rfl ?_
        refine ev_callvI (pc1 := 74) (as := [.int 7]) (r := []) (TBof tbs_77 _ rfl) rfl (lnkof mo_77 ln_7_24) rfl na_56 ltc_0 (sh_0.trans (by rw [mo_56])) (Nat.le_of_ble_eq_true rfl) (CN_count hw hI) (fun x9 M9 h9 D9 ⟨e9, hI⟩ => ?_)
        subst e9
        refine ev_istore_n (pc1 := 75) (L1 := [(3, .int (opCount (nOf A7.1.1) A7 7)), (2, .int 0), (1, .ref 0), (0, .retAddr 0)]) (by rw [ml_77]; decide) rfl (TBof tbs_77 _ rfl) rfl ?_
        refine ev_iconst (pc1 := 76) (x := 0) (by decide) (TBof tbs_77 _ rfl) rfl ?_
        refine ev_istore (pc1 := 78) (L1 := [(4, .int 0), (3, .int (opCount (nOf A7.1.1) A7 7)), (2, .int 0), (1, .ref 0), (0, .retAddr 0)]) (by rw [ml_77]; decide) rfl (TBof tbs_77 _ rfl) rfl ?_
        exact ev_le [4, 3, 2, 1, 0] rfl rfl (H _ _ _ hI)
      · replace H := H.2 c8
        refine ev_aload_n (pc1 := 35) rfl rfl (TBof tbs_77 _ rfl) rfl ?_
        refine ev_callvI (pc1 := 38) (as := []) (r := []) (TBof tbs_77 _ rfl) rfl (lnkof mo_77 ln_7_74) rfl na_42 ltc_0 (sh_0.trans (by rw [mo_42])) (Nat.le_of_ble_eq_true rfl) (CN_begin hw hI) (fun x10 M10 h10 D10 ⟨A10, q10, hI, hw⟩ => ?_)
        replace H := H x10 A10 q10
        refine ev_aload_n (pc1 := 39) rfl rfl (TBof tbs_77 _ rfl) rfl ?_
        refine ev_iconst (pc1 := 40) (x := 0) (by decide) (TBof tbs_77 _ rfl) rfl ?_
        refine ev_callvI (pc1 := 43) (as := [.int 0]) (r := [.int x10]) (TBof tbs_77 _ rfl) rfl (lnkof mo_77 ln_7_24) rfl na_56 ltc_0 (sh_0.trans (by rw [mo_56])) (Nat.le_of_ble_eq_true rfl) (CN_count hw hI) (fun x11 M11 h11 D11 ⟨e11, hI⟩ => ?_)
        subst e11
        refine ev_icmp (pc1 := 46) (t := 66) (TBof tbs_77 _ rfl) (by decide) rfl (fun c12 => ?_) (fun c12 => ?_)
        · replace H := H.1 c12
          refine ev_iconst (pc1 := 67) (x := 0) (by decide) (TBof tbs_77 _ rfl) rfl ?_
          refine ev_istore_n (pc1 := 68) (L1 := [(2, .int 0), (1, .ref 0), (0, .retAddr 0)]) (by rw [ml_77]; decide) rfl (TBof tbs_77 _ rfl) rfl ?_
          refine ev_aload_n (pc1 := 69) rfl rfl (TBof tbs_77 _ rfl) rfl ?_
          refine ev_bipush (pc1 := 71) (x := 7) (by decide) (TBof tbs_77 _ rfl) rfl ?_
          refine ev_callvI (pc1 := 74) (as := [.int 7]) (r := []) (TBof tbs_77 _ rfl) rfl (lnkof mo_77 ln_7_24) rfl na_56 ltc_0 (sh_0.trans (by rw [mo_56])) (Nat.le_of_ble_eq_true rfl) (CN_count hw hI) (fun x13 M13 h13 D13 ⟨e13, hI⟩ => ?_)
          subst e13
          refine ev_istore_n (pc1 := 75) (L1 := [(3, .int (opCount (nOf A10.1.1) A10 7)), (2, .int 0), (1, .ref 0), (0, .retAddr 0)]) (by rw [ml_77]; decide) rfl (TBof tbs_77 _ rfl) rfl ?_
          refine ev_iconst (pc1 := 76) (x := 0) (by decide) (TBof tbs_77 _ rfl) rfl ?_
          refine ev_istore (pc1 := 78) (L1 := [(4, .int 0), (3, .int (opCount (nOf A10.1.1) A10 7)), (2, .int 0), (1, .ref 0), (0, .retAddr 0)]) (by rw [ml_77]; decide) rfl (TBof tbs_77 _ rfl) rfl ?_
          exact ev_le [4, 3, 2, 1, 0] rfl rfl (H _ _ _ hI)
        · replace H := H.2 c12
          refine ev_aload_n (pc1 := 47) rfl rfl (TBof tbs_77 _ rfl) rfl ?_
          refine ev_callvD (pc1 := 50) (as := []) (r := []) (TBof tbs_77 _ rfl) rfl (lnkof mo_77 ln_7_33) rfl na_54 ltc_0 (sh_0.trans (by rw [mo_54])) (Nat.le_of_ble_eq_true rfl) (CN_minutes (by omega) hw hI) (fun x14 M14 h14 D14 ⟨e14, hI⟩ => ?_)
          subst e14
          refine ev_dconst0 (pc1 := 51) (TBof tbs_77 _ rfl) rfl ?_
          refine ev_dcmp (pc1 := 52) (TBof tbs_77 _ rfl) rfl ?_
          refine ev_if (pc1 := 55) (t := 66) (TBof tbs_77 _ rfl) (by decide) rfl (fun c15 => ?_) (fun c15 => ?_)
          · replace H := H.1 c15
            refine ev_iconst (pc1 := 67) (x := 0) (by decide) (TBof tbs_77 _ rfl) rfl ?_
            refine ev_istore_n (pc1 := 68) (L1 := [(2, .int 0), (1, .ref 0), (0, .retAddr 0)]) (by rw [ml_77]; decide) rfl (TBof tbs_77 _ rfl) rfl ?_
            refine ev_aload_n (pc1 := 69) rfl rfl (TBof tbs_77 _ rfl) rfl ?_
            refine ev_bipush (pc1 := 71) (x := 7) (by decide) (TBof tbs_77 _ rfl) rfl ?_
            refine ev_callvI (pc1 := 74) (as := [.int 7]) (r := []) (TBof tbs_77 _ rfl) rfl (lnkof mo_77 ln_7_24) rfl na_56 ltc_0 (sh_0.trans (by rw [mo_56])) (Nat.le_of_ble_eq_true rfl) (CN_count hw hI) (fun x16 M16 h16 D16 ⟨e16, hI⟩ => ?_)
            subst e16
            refine ev_istore_n (pc1 := 75) (L1 := [(3, .int (opCount (nOf A10.1.1) A10 7)), (2, .int 0), (1, .ref 0), (0, .retAddr 0)]) (by rw [ml_77]; decide) rfl (TBof tbs_77 _ rfl) rfl ?_
            refine ev_iconst (pc1 := 76) (x := 0) (by decide) (TBof tbs_77 _ rfl) rfl ?_
            refine ev_istore (pc1 := 78) (L1 := [(4, .int 0), (3, .int (opCount (nOf A10.1.1) A10 7)), (2, .int 0), (1, .ref 0), (0, .retAddr 0)]) (by rw [ml_77]; decide) rfl (TBof tbs_77 _ rfl) rfl ?_
            exact ev_le [4, 3, 2, 1, 0] rfl rfl (H _ _ _ hI)
          · replace H := H.2 c15
            refine ev_aload_n (pc1 := 56) rfl rfl (TBof tbs_77 _ rfl) rfl ?_
            refine ev_callvI (pc1 := 59) (as := []) (r := []) (TBof tbs_77 _ rfl) rfl (lnkof mo_77 ln_7_85) rfl na_55 ltc_0 (sh_0.trans (by rw [mo_55])) (Nat.le_of_ble_eq_true rfl) (CN_minutesBits (by omega) hw hI) (fun x17 M17 h17 D17 ⟨e17, hI⟩ => ?_)
            subst e17
            refine ev_if (pc1 := 62) (t := 66) (TBof tbs_77 _ rfl) (by decide) rfl (fun c18 => ?_) (fun c18 => ?_)
            · replace H := H.1 c18
              refine ev_iconst (pc1 := 67) (x := 0) (by decide) (TBof tbs_77 _ rfl) rfl ?_
              refine ev_istore_n (pc1 := 68) (L1 := [(2, .int 0), (1, .ref 0), (0, .retAddr 0)]) (by rw [ml_77]; decide) rfl (TBof tbs_77 _ rfl) rfl ?_
              refine ev_aload_n (pc1 := 69) rfl rfl (TBof tbs_77 _ rfl) rfl ?_
              refine ev_bipush (pc1 := 71) (x := 7) (by decide) (TBof tbs_77 _ rfl) rfl ?_
              refine ev_callvI (pc1 := 74) (as := [.int 7]) (r := []) (TBof tbs_77 _ rfl) rfl (lnkof mo_77 ln_7_24) rfl na_56 ltc_0 (sh_0.trans (by rw [mo_56])) (Nat.le_of_ble_eq_true rfl) (CN_count hw hI) (fun x19 M19 h19 D19 ⟨e19, hI⟩ => ?_)
              subst e19
              refine ev_istore_n (pc1 := 75) (L1 := [(3, .int (opCount (nOf A10.1.1) A10 7)), (2, .int 0), (1, .ref 0), (0, .retAddr 0)]) (by rw [ml_77]; decide) rfl (TBof tbs_77 _ rfl) rfl ?_
              refine ev_iconst (pc1 := 76) (x := 0) (by decide) (TBof tbs_77 _ rfl) rfl ?_
              refine ev_istore (pc1 := 78) (L1 := [(4, .int 0), (3, .int (opCount (nOf A10.1.1) A10 7)), (2, .int 0), (1, .ref 0), (0, .retAddr 0)]) (by rw [ml_77]; decide) rfl (TBof tbs_77 _ rfl) rfl ?_
              exact ev_le [4, 3, 2, 1, 0] rfl rfl (H _ _ _ hI)
            · replace H := H.2 c18
              refine ev_iconst (pc1 := 63) (x := 1) (by decide) (TBof tbs_77 _ rfl) rfl ?_
              refine ev_goto (pc1 := 67) (TBof tbs_77 _ rfl) (by decide) ?_
              refine ev_istore_n (pc1 := 68) (L1 := [(2, .int 1), (1, .ref 0), (0, .retAddr 0)]) (by rw [ml_77]; decide) rfl (TBof tbs_77 _ rfl) rfl ?_
              refine ev_aload_n (pc1 := 69) rfl rfl (TBof tbs_77 _ rfl) rfl ?_
              refine ev_bipush (pc1 := 71) (x := 7) (by decide) (TBof tbs_77 _ rfl) rfl ?_
              refine ev_callvI (pc1 := 74) (as := [.int 7]) (r := []) (TBof tbs_77 _ rfl) rfl (lnkof mo_77 ln_7_24) rfl na_56 ltc_0 (sh_0.trans (by rw [mo_56])) (Nat.le_of_ble_eq_true rfl) (CN_count hw hI) (fun x20 M20 h20 D20 ⟨e20, hI⟩ => ?_)
              subst e20
              refine ev_istore_n (pc1 := 75) (L1 := [(3, .int (opCount (nOf A10.1.1) A10 7)), (2, .int 1), (1, .ref 0), (0, .retAddr 0)]) (by rw [ml_77]; decide) rfl (TBof tbs_77 _ rfl) rfl ?_
              refine ev_iconst (pc1 := 76) (x := 0) (by decide) (TBof tbs_77 _ rfl) rfl ?_
              refine ev_istore (pc1 := 78) (L1 := [(4, .int 0), (3, .int (opCount (nOf A10.1.1) A10 7)), (2, .int 1), (1, .ref 0), (0, .retAddr 0)]) (by rw [ml_77]; decide) rfl (TBof tbs_77 _ rfl) rfl ?_
              exact ev_le [4, 3, 2, 1, 0] rfl rfl (H _ _ _ hI)
set_option maxRecDepth 100000 in
theorem R_L_law_78 {Lb : Nat} {xs : Nat → Int32} {c : Nat} {A : Ab} {v2 v3 v4 : Int32} {Q : Int32 → Ab → Prop} (hLb : Lb ≤ 260) (hc : c ≤ 400) (hw : wfA c A) (H : (((opCount (nOf A.1.1) A 0) ≤ v4) → (EA (some (Lb, xs)) (9) nL_law 139 [(0, .retAddr 0), (1, .ref 0), (2, .int v2), (3, .int v3), (4, .int v4)] [] A Q)) ∧ (¬ ((opCount (nOf A.1.1) A 0) ≤ v4) → (((v2 = 0) → (EA (some (Lb, xs)) (9) nL_law 139 [(0, .retAddr 0), (1, .ref 0), (2, .int v2), (3, .int v3), (4, .int v4)] [] A Q)) ∧ (¬ (v2 = 0) → (((¬ ((opNeeds (nOf A.1.1) A.1.1 v4 0) = (-4))) → (((¬ (((v3 >>> (v4 &&& 31)) &&& 1) = 0)) → (EA (some (Lb, xs)) (9) nL_law 78 [(0, .retAddr 0), (1, .ref 0), (2, .int 0), (3, .int v3), (4, .int (v4 + 1))] [] A Q)) ∧ (¬ (¬ (((v3 >>> (v4 &&& 31)) &&& 1) = 0)) → (CA (some (Lb, xs)) (9) nL_isNeeded [.ref 0, .int v4] A (fun x7 A7 => ∃ c7, c7 ≤ 400 ∧ wfA c7 A7 ∧ (((x7 = 0) → (EA (some (Lb, xs)) (9) nL_law 78 [(0, .retAddr 0), (1, .ref 0), (2, .int 0), (3, .int v3), (4, .int (v4 + 1))] [] A7 Q)) ∧ (¬ (x7 = 0) → (EA (some (Lb, xs)) (9) nL_law 78 [(0, .retAddr 0), (1, .ref 0), (2, .int 1), (3, .int v3), (4, .int (v4 + 1))] [] A7 Q)))))))) ∧ (¬ (¬ ((opNeeds (nOf A.1.1) A.1.1 v4 0) = (-4))) → (((¬ (((v3 >>> (v4 &&& 31)) &&& 1) = 1)) → (EA (some (Lb, xs)) (9) nL_law 78 [(0, .retAddr 0), (1, .ref 0), (2, .int 0), (3, .int v3), (4, .int (v4 + 1))] [] A Q)) ∧ (¬ (¬ (((v3 >>> (v4 &&& 31)) &&& 1) = 1)) → (CA (some (Lb, xs)) (9) nL_isNeeded [.ref 0, .int v4] A (fun x10 A10 => ∃ c10, c10 ≤ 400 ∧ wfA c10 A10 ∧ (((x10 = 0) → (EA (some (Lb, xs)) (9) nL_law 78 [(0, .retAddr 0), (1, .ref 0), (2, .int 0), (3, .int v3), (4, .int (v4 + 1))] [] A10 Q)) ∧ (¬ (x10 = 0) → (EA (some (Lb, xs)) (9) nL_law 78 [(0, .retAddr 0), (1, .ref 0), (2, .int 1), (3, .int v3), (4, .int (v4 + 1))] [] A10 Q))))))))))))) : EA (some (Lb, xs)) (9) nL_law 78 [(0, .retAddr 0), (1, .ref 0), (2, .int v2), (3, .int v3), (4, .int v4)] [] A Q := by
  intro M h D hI
  refine ev_iload (pc1 := 80) rfl (TBof tbs_77 _ rfl) rfl ?_
  refine ev_aload_n (pc1 := 81) rfl rfl (TBof tbs_77 _ rfl) rfl ?_
  refine ev_iconst (pc1 := 82) (x := 0) (by decide) (TBof tbs_77 _ rfl) rfl ?_
  refine ev_callvI (pc1 := 85) (as := [.int 0]) (r := [.int v4]) (TBof tbs_77 _ rfl) rfl (lnkof mo_77 ln_7_24) rfl na_56 ltc_0 (sh_0.trans (by rw [mo_56])) (Nat.le_of_ble_eq_true rfl) (CN_count hw hI) (fun x1 M1 h1 D1 ⟨e1, hI⟩ => ?_)
  subst e1
  refine ev_icmp (pc1 := 88) (t := 139) (TBof tbs_77 _ rfl) (by decide) rfl (fun c2 => ?_) (fun c2 => ?_)
  · replace H := H.1 c2
    exact ev_le [0, 1, 2, 3, 4] rfl rfl (H _ _ _ hI)
  · replace H := H.2 c2
    refine ev_iload_n (pc1 := 89) rfl (TBof tbs_77 _ rfl) rfl ?_
    refine ev_if (pc1 := 92) (t := 139) (TBof tbs_77 _ rfl) (by decide) rfl (fun c3 => ?_) (fun c3 => ?_)
    · replace H := H.1 c3
      exact ev_le [0, 1, 2, 3, 4] rfl rfl (H _ _ _ hI)
    · replace H := H.2 c3
      refine ev_iload_n (pc1 := 93) rfl (TBof tbs_77 _ rfl) rfl ?_
      refine ev_iload (pc1 := 95) rfl (TBof tbs_77 _ rfl) rfl ?_
      refine ev_ishr (pc1 := 96) (TBof tbs_77 _ rfl) rfl ?_
      refine ev_iconst (pc1 := 97) (x := 1) (by decide) (TBof tbs_77 _ rfl) rfl ?_
      refine ev_iand (pc1 := 98) (TBof tbs_77 _ rfl) rfl ?_
      refine ev_aload_n (pc1 := 99) rfl rfl (TBof tbs_77 _ rfl) rfl ?_
      refine ev_iload (pc1 := 101) rfl (TBof tbs_77 _ rfl) rfl ?_
      refine ev_iconst (pc1 := 102) (x := 0) (by decide) (TBof tbs_77 _ rfl) rfl ?_
      refine ev_callvI (pc1 := 105) (as := [.int v4, .int 0]) (r := [.int ((v3 >>> (v4 &&& 31)) &&& 1)]) (TBof tbs_77 _ rfl) rfl (lnkof mo_77 ln_7_9) rfl na_52 ltc_0 (sh_0.trans (by rw [mo_52])) (Nat.le_of_ble_eq_true rfl) (CN_needs hw hI) (fun x4 M4 h4 D4 ⟨e4, hI⟩ => ?_)
      subst e4
      refine ev_bipush (pc1 := 107) (x := (-4)) (by decide) (TBof tbs_77 _ rfl) rfl ?_
      refine ev_icmp (pc1 := 110) (t := 114) (TBof tbs_77 _ rfl) (by decide) rfl (fun c5 => ?_) (fun c5 => ?_)
      · replace H := H.1 c5
        refine ev_iconst (pc1 := 115) (x := 0) (by decide) (TBof tbs_77 _ rfl) rfl ?_
        refine ev_icmp (pc1 := 118) (t := 131) (TBof tbs_77 _ rfl) (by decide) rfl (fun c6 => ?_) (fun c6 => ?_)
        · replace H := H.1 c6
          refine ev_iconst (pc1 := 132) (x := 0) (by decide) (TBof tbs_77 _ rfl) rfl ?_
          refine ev_istore_n (pc1 := 133) (L1 := [(2, .int 0), (0, .retAddr 0), (1, .ref 0), (3, .int v3), (4, .int v4)]) (by rw [ml_77]; decide) rfl (TBof tbs_77 _ rfl) rfl ?_
          refine ev_iinc (pc1 := 136) (n := 4) (c := 1) (x := v4) (cc := 1) (L1 := [(4, .int (v4 + 1)), (2, .int 0), (0, .retAddr 0), (1, .ref 0), (3, .int v3)]) rfl (by rw [ml_77]; decide) (by decide) rfl (TBof tbs_77 _ rfl) rfl ?_
          refine ev_goto (pc1 := 78) (TBof tbs_77 _ rfl) (by decide) ?_
          exact ev_le [2, 3, 1, 4, 0] rfl rfl (H _ _ _ hI)
        · replace H := H.2 c6
          refine ev_aload_n (pc1 := 119) rfl rfl (TBof tbs_77 _ rfl) rfl ?_
          refine ev_iload (pc1 := 121) rfl (TBof tbs_77 _ rfl) rfl ?_
          refine ev_callsS (pc1 := 124) (as := [.ref 0, .int v4]) (r := []) (TBof tbs_77 _ rfl) rfl (lnkof mo_77 ln_7_88) (Or.inl rfl) rfl na_72 (Nat.le_of_ble_eq_true rfl) (H _ _ _ hI) (fun x7 M7 h7 D7 ⟨A7, H, hI⟩ => ?_)
          obtain ⟨c7, hc7, hw, H⟩ := H
          refine ev_if (pc1 := 127) (t := 131) (TBof tbs_77 _ rfl) (by decide) rfl (fun c8 => ?_) (fun c8 => ?_)
          · replace H := H.1 c8
            refine ev_iconst (pc1 := 132) (x := 0) (by decide) (TBof tbs_77 _ rfl) rfl ?_
            refine ev_istore_n (pc1 := 133) (L1 := [(2, .int 0), (0, .retAddr 0), (1, .ref 0), (3, .int v3), (4, .int v4)]) (by rw [ml_77]; decide) rfl (TBof tbs_77 _ rfl) rfl ?_
            refine ev_iinc (pc1 := 136) (n := 4) (c := 1) (x := v4) (cc := 1) (L1 := [(4, .int (v4 + 1)), (2, .int 0), (0, .retAddr 0), (1, .ref 0), (3, .int v3)]) rfl (by rw [ml_77]; decide) (by decide) rfl (TBof tbs_77 _ rfl) rfl ?_
            refine ev_goto (pc1 := 78) (TBof tbs_77 _ rfl) (by decide) ?_
            exact ev_le [2, 3, 1, 4, 0] rfl rfl (H _ _ _ hI)
          · replace H := H.2 c8
            refine ev_iconst (pc1 := 128) (x := 1) (by decide) (TBof tbs_77 _ rfl) rfl ?_
            refine ev_goto (pc1 := 132) (TBof tbs_77 _ rfl) (by decide) ?_
            refine ev_istore_n (pc1 := 133) (L1 := [(2, .int 1), (0, .retAddr 0), (1, .ref 0), (3, .int v3), (4, .int v4)]) (by rw [ml_77]; decide) rfl (TBof tbs_77 _ rfl) rfl ?_
            refine ev_iinc (pc1 := 136) (n := 4) (c := 1) (x := v4) (cc := 1) (L1 := [(4, .int (v4 + 1)), (2, .int 1), (0, .retAddr 0), (1, .ref 0), (3, .int v3)]) rfl (by rw [ml_77]; decide) (by decide) rfl (TBof tbs_77 _ rfl) rfl ?_
            refine ev_goto (pc1 := 78) (TBof tbs_77 _ rfl) (by decide) ?_
            exact ev_le [2, 3, 1, 4, 0] rfl rfl (H _ _ _ hI)
      · replace H := H.2 c5
        refine ev_iconst (pc1 := 111) (x := 1) (by decide) (TBof tbs_77 _ rfl) rfl ?_
        refine ev_goto (pc1 := 115) (TBof tbs_77 _ rfl) (by decide) ?_
        refine ev_icmp (pc1 := 118) (t := 131) (TBof tbs_77 _ rfl) (by decide) rfl (fun c9 => ?_) (fun c9 => ?_)
        · replace H := H.1 c9
          refine ev_iconst (pc1 := 132) (x := 0) (by decide) (TBof tbs_77 _ rfl) rfl ?_
          refine ev_istore_n (pc1 := 133) (L1 := [(2, .int 0), (0, .retAddr 0), (1, .ref 0), (3, .int v3), (4, .int v4)]) (by rw [ml_77]; decide) rfl (TBof tbs_77 _ rfl) rfl ?_
          refine ev_iinc (pc1 := 136) (n := 4) (c := 1) (x := v4) (cc := 1) (L1 := [(4, .int (v4 + 1)), (2, .int 0), (0, .retAddr 0), (1, .ref 0), (3, .int v3)]) rfl (by rw [ml_77]; decide) (by decide) rfl (TBof tbs_77 _ rfl) rfl ?_
          refine ev_goto (pc1 := 78) (TBof tbs_77 _ rfl) (by decide) ?_
          exact ev_le [2, 3, 1, 4, 0] rfl rfl (H _ _ _ hI)
        · replace H := H.2 c9
          refine ev_aload_n (pc1 := 119) rfl rfl (TBof tbs_77 _ rfl) rfl ?_
          refine ev_iload (pc1 := 121) rfl (TBof tbs_77 _ rfl) rfl ?_
          refine ev_callsS (pc1 := 124) (as := [.ref 0, .int v4]) (r := []) (TBof tbs_77 _ rfl) rfl (lnkof mo_77 ln_7_88) (Or.inl rfl) rfl na_72 (Nat.le_of_ble_eq_true rfl) (H _ _ _ hI) (fun x10 M10 h10 D10 ⟨A10, H, hI⟩ => ?_)
          obtain ⟨c10, hc10, hw, H⟩ := H
          refine ev_if (pc1 := 127) (t := 131) (TBof tbs_77 _ rfl) (by decide) rfl (fun c11 => ?_) (fun c11 => ?_)
          · replace H := H.1 c11
            refine ev_iconst (pc1 := 132) (x := 0) (by decide) (TBof tbs_77 _ rfl) rfl ?_
            refine ev_istore_n (pc1 := 133) (L1 := [(2, .int 0), (0, .retAddr 0), (1, .ref 0), (3, .int v3), (4, .int v4)]) (by rw [ml_77]; decide) rfl (TBof tbs_77 _ rfl) rfl ?_
            refine ev_iinc (pc1 := 136) (n := 4) (c := 1) (x := v4) (cc := 1) (L1 := [(4, .int (v4 + 1)), (2, .int 0), (0, .retAddr 0), (1, .ref 0), (3, .int v3)]) rfl (by rw [ml_77]; decide) (by decide) rfl (TBof tbs_77 _ rfl) rfl ?_
            refine ev_goto (pc1 := 78) (TBof tbs_77 _ rfl) (by decide) ?_
            exact ev_le [2, 3, 1, 4, 0] rfl rfl (H _ _ _ hI)
          · replace H := H.2 c11
            refine ev_iconst (pc1 := 128) (x := 1) (by decide) (TBof tbs_77 _ rfl) rfl ?_
            refine ev_goto (pc1 := 132) (TBof tbs_77 _ rfl) (by decide) ?_
            refine ev_istore_n (pc1 := 133) (L1 := [(2, .int 1), (0, .retAddr 0), (1, .ref 0), (3, .int v3), (4, .int v4)]) (by rw [ml_77]; decide) rfl (TBof tbs_77 _ rfl) rfl ?_
            refine ev_iinc (pc1 := 136) (n := 4) (c := 1) (x := v4) (cc := 1) (L1 := [(4, .int (v4 + 1)), (2, .int 1), (0, .retAddr 0), (1, .ref 0), (3, .int v3)]) rfl (by rw [ml_77]; decide) (by decide) rfl (TBof tbs_77 _ rfl) rfl ?_
            refine ev_goto (pc1 := 78) (TBof tbs_77 _ rfl) (by decide) ?_
            exact ev_le [2, 3, 1, 4, 0] rfl rfl (H _ _ _ hI)
set_option maxRecDepth 100000 in
theorem R_L_law_139 {Lb : Nat} {xs : Nat → Int32} {c : Nat} {A : Ab} {v2 v3 v4 : Int32} {Q : Int32 → Ab → Prop} (hLb : Lb ≤ 260) (hc : c ≤ 400) (hw : wfA c A) (H : ((v2 = 0) → (EA (some (Lb, xs)) (9) nL_law 170 [(0, .retAddr 0), (1, .ref 0), (2, .int 0), (3, .int v3), (4, .int 0)] [] A Q)) ∧ (¬ (v2 = 0) → (((¬ (v3 = 0)) → (((¬ ((opCount (nOf A.1.1) A 6) = 0)) → (EA (some (Lb, xs)) (9) nL_law 170 [(0, .retAddr 0), (1, .ref 0), (2, .int 0), (3, .int v3), (4, .int 0)] [] A Q)) ∧ (¬ (¬ ((opCount (nOf A.1.1) A 6) = 0)) → (EA (some (Lb, xs)) (9) nL_law 170 [(0, .retAddr 0), (1, .ref 0), (2, .int 1), (3, .int v3), (4, .int 0)] [] A Q)))) ∧ (¬ (¬ (v3 = 0)) → (((¬ ((opCount (nOf A.1.1) A 6) = 1)) → (EA (some (Lb, xs)) (9) nL_law 170 [(0, .retAddr 0), (1, .ref 0), (2, .int 0), (3, .int v3), (4, .int 0)] [] A Q)) ∧ (¬ (¬ ((opCount (nOf A.1.1) A 6) = 1)) → (EA (some (Lb, xs)) (9) nL_law 170 [(0, .retAddr 0), (1, .ref 0), (2, .int 1), (3, .int v3), (4, .int 0)] [] A Q))))))) : EA (some (Lb, xs)) (9) nL_law 139 [(0, .retAddr 0), (1, .ref 0), (2, .int v2), (3, .int v3), (4, .int v4)] [] A Q := by
  intro M h D hI
  refine ev_iload_n (pc1 := 140) rfl (TBof tbs_77 _ rfl) rfl ?_
  refine ev_if (pc1 := 143) (t := 165) (TBof tbs_77 _ rfl) (by decide) rfl (fun c1 => ?_) (fun c1 => ?_)
  · replace H := H.1 c1
    refine ev_iconst (pc1 := 166) (x := 0) (by decide) (TBof tbs_77 _ rfl) rfl ?_
    refine ev_istore_n (pc1 := 167) (L1 := [(2, .int 0), (0, .retAddr 0), (1, .ref 0), (3, .int v3), (4, .int v4)]) (by rw [ml_77]; decide) rfl (TBof tbs_77 _ rfl) rfl ?_
    refine ev_iconst (pc1 := 168) (x := 0) (by decide) (TBof tbs_77 _ rfl) rfl ?_
    refine ev_istore (pc1 := 170) (L1 := [(4, .int 0), (2, .int 0), (0, .retAddr 0), (1, .ref 0), (3, .int v3)]) (by rw [ml_77]; decide) rfl (TBof tbs_77 _ rfl) rfl ?_
    exact ev_le [2, 3, 1, 4, 0] rfl rfl (H _ _ _ hI)
  · replace H := H.2 c1
    refine ev_aload_n (pc1 := 144) rfl rfl (TBof tbs_77 _ rfl) rfl ?_
    refine ev_bipush (pc1 := 146) (x := 6) (by decide) (TBof tbs_77 _ rfl) rfl ?_
    refine ev_callvI (pc1 := 149) (as := [.int 6]) (r := []) (TBof tbs_77 _ rfl) rfl (lnkof mo_77 ln_7_24) rfl na_56 ltc_0 (sh_0.trans (by rw [mo_56])) (Nat.le_of_ble_eq_true rfl) (CN_count hw hI) (fun x2 M2 h2 D2 ⟨e2, hI⟩ => ?_)
    subst e2
    refine ev_iload_n (pc1 := 150) rfl (TBof tbs_77 _ rfl) rfl ?_
    refine ev_if (pc1 := 153) (t := 157) (TBof tbs_77 _ rfl) (by decide) rfl (fun c3 => ?_) (fun c3 => ?_)
    · replace H := H.1 c3
      refine ev_iconst (pc1 := 158) (x := 0) (by decide) (TBof tbs_77 _ rfl) rfl ?_
      refine ev_icmp (pc1 := 161) (t := 165) (TBof tbs_77 _ rfl) (by decide) rfl (fun c4 => ?_) (fun c4 => ?_)
      · replace H := H.1 c4
        refine ev_iconst (pc1 := 166) (x := 0) (by decide) (TBof tbs_77 _ rfl) rfl ?_
        refine ev_istore_n (pc1 := 167) (L1 := [(2, .int 0), (0, .retAddr 0), (1, .ref 0), (3, .int v3), (4, .int v4)]) (by rw [ml_77]; decide) rfl (TBof tbs_77 _ rfl) rfl ?_
        refine ev_iconst (pc1 := 168) (x := 0) (by decide) (TBof tbs_77 _ rfl) rfl ?_
        refine ev_istore (pc1 := 170) (L1 := [(4, .int 0), (2, .int 0), (0, .retAddr 0), (1, .ref 0), (3, .int v3)]) (by rw [ml_77]; decide) rfl (TBof tbs_77 _ rfl) rfl ?_
        exact ev_le [2, 3, 1, 4, 0] rfl rfl (H _ _ _ hI)
      · replace H := H.2 c4
        refine ev_iconst (pc1 := 162) (x := 1) (by decide) (TBof tbs_77 _ rfl) rfl ?_
        refine ev_goto (pc1 := 166) (TBof tbs_77 _ rfl) (by decide) ?_
        refine ev_istore_n (pc1 := 167) (L1 := [(2, .int 1), (0, .retAddr 0), (1, .ref 0), (3, .int v3), (4, .int v4)]) (by rw [ml_77]; decide) rfl (TBof tbs_77 _ rfl) rfl ?_
        refine ev_iconst (pc1 := 168) (x := 0) (by decide) (TBof tbs_77 _ rfl) rfl ?_
        refine ev_istore (pc1 := 170) (L1 := [(4, .int 0), (2, .int 1), (0, .retAddr 0), (1, .ref 0), (3, .int v3)]) (by rw [ml_77]; decide) rfl (TBof tbs_77 _ rfl) rfl ?_
        exact ev_le [2, 3, 1, 4, 0] rfl rfl (H _ _ _ hI)
    · replace H := H.2 c3
      refine ev_iconst (pc1 := 154) (x := 1) (by decide) (TBof tbs_77 _ rfl) rfl ?_
      refine ev_goto (pc1 := 158) (TBof tbs_77 _ rfl) (by decide) ?_
      refine ev_icmp (pc1 := 161) (t := 165) (TBof tbs_77 _ rfl) (by decide) rfl (fun c5 => ?_) (fun c5 => ?_)
      · replace H := H.1 c5
        refine ev_iconst (pc1 := 166) (x := 0) (by decide) (TBof tbs_77 _ rfl) rfl ?_
        refine ev_istore_n (pc1 := 167) (L1 := [(2, .int 0), (0, .retAddr 0), (1, .ref 0), (3, .int v3), (4, .int v4)]) (by rw [ml_77]; decide) rfl (TBof tbs_77 _ rfl) rfl ?_
        refine ev_iconst (pc1 := 168) (x := 0) (by decide) (TBof tbs_77 _ rfl) rfl ?_
        refine ev_istore (pc1 := 170) (L1 := [(4, .int 0), (2, .int 0), (0, .retAddr 0), (1, .ref 0), (3, .int v3)]) (by rw [ml_77]; decide) rfl (TBof tbs_77 _ rfl) rfl ?_
        exact ev_le [2, 3, 1, 4, 0] rfl rfl (H _ _ _ hI)
      · replace H := H.2 c5
        refine ev_iconst (pc1 := 162) (x := 1) (by decide) (TBof tbs_77 _ rfl) rfl ?_
        refine ev_goto (pc1 := 166) (TBof tbs_77 _ rfl) (by decide) ?_
        refine ev_istore_n (pc1 := 167) (L1 := [(2, .int 1), (0, .retAddr 0), (1, .ref 0), (3, .int v3), (4, .int v4)]) (by rw [ml_77]; decide) rfl (TBof tbs_77 _ rfl) rfl ?_
        refine ev_iconst (pc1 := 168) (x := 0) (by decide) (TBof tbs_77 _ rfl) rfl ?_
        refine ev_istore (pc1 := 170) (L1 := [(4, .int 0), (2, .int 1), (0, .retAddr 0), (1, .ref 0), (3, .int v3)]) (by rw [ml_77]; decide) rfl (TBof tbs_77 _ rfl) rfl ?_
        exact ev_le [2, 3, 1, 4, 0] rfl rfl (H _ _ _ hI)
set_option maxRecDepth 100000 in
theorem R_L_law_170 {Lb : Nat} {xs : Nat → Int32} {c : Nat} {A : Ab} {v2 v3 v4 : Int32} {Q : Int32 → Ab → Prop} (hLb : Lb ≤ 260) (hc : c ≤ 400) (hw : wfA c A) (H : ((24 ≤ v4) → (EA (some (Lb, xs)) (9) nL_law 310 [(0, .retAddr 0), (1, .ref 0), (2, .int v2), (3, .int v3), (4, .int v4)] [] A Q)) ∧ (¬ (24 ≤ v4) → (((v2 = 0) → (EA (some (Lb, xs)) (9) nL_law 310 [(0, .retAddr 0), (1, .ref 0), (2, .int v2), (3, .int v3), (4, .int v4)] [] A Q)) ∧ (¬ (v2 = 0) → (0 ≤ (23 + v4) ∧ ((3 : Int32) ≠ 0 ∧ ((((((cellV Lb xs (23 + v4)) >>> (12 &&& 31)) - ((cellV Lb xs (23 + v4)) >>> (12 &&& 31)) / 3 * 3) ≤ 0) → (CA (some (Lb, xs)) (9) nL_acts [.ref 0, .int (cellV Lb xs (23 + v4))] A (fun x5 A5 => ∃ c5, c5 ≤ 400 ∧ wfA c5 A5 ∧ (EA (some (Lb, xs)) (9) nL_law 226 [(0, .retAddr 0), (1, .ref 0), (2, .int v2), (3, .int v3), (4, .int v4), (5, .int (cellV Lb xs (23 + v4)))] [.int x5] A5 Q)))) ∧ (¬ ((((cellV Lb xs (23 + v4)) >>> (12 &&& 31)) - ((cellV Lb xs (23 + v4)) >>> (12 &&& 31)) / 3 * 3) ≤ 0) → ((opCount (nOf A.1.1) A 0) ≠ 0 ∧ (CA (some (Lb, xs)) (9) nL_goes [.ref 0, .int (((cellV Lb xs (23 + v4)) >>> (16 &&& 31)) - ((cellV Lb xs (23 + v4)) >>> (16 &&& 31)) / (opCount (nOf A.1.1) A 0) * (opCount (nOf A.1.1) A 0))] A (fun x7 A7 => ∃ c7, c7 ≤ 400 ∧ wfA c7 A7 ∧ (EA (some (Lb, xs)) (9) nL_law 226 [(0, .retAddr 0), (1, .ref 0), (2, .int v2), (3, .int v3), (4, .int v4), (5, .int (cellV Lb xs (23 + v4)))] [.int x7] A7 Q)))))))))))) : EA (some (Lb, xs)) (9) nL_law 170 [(0, .retAddr 0), (1, .ref 0), (2, .int v2), (3, .int v3), (4, .int v4)] [] A Q := by
  intro M h D hI
  refine ev_iload (pc1 := 172) rfl (TBof tbs_77 _ rfl) rfl ?_
  refine ev_bipush (pc1 := 174) (x := 24) (by decide) (TBof tbs_77 _ rfl) rfl ?_
  refine ev_icmp (pc1 := 177) (t := 310) (TBof tbs_77 _ rfl) (by decide) rfl (fun c1 => ?_) (fun c1 => ?_)
  · replace H := H.1 c1
    exact ev_le [0, 1, 2, 3, 4] rfl rfl (H _ _ _ hI)
  · replace H := H.2 c1
    refine ev_iload_n (pc1 := 178) rfl (TBof tbs_77 _ rfl) rfl ?_
    refine ev_if (pc1 := 181) (t := 310) (TBof tbs_77 _ rfl) (by decide) rfl (fun c2 => ?_) (fun c2 => ?_)
    · replace H := H.1 c2
      exact ev_le [0, 1, 2, 3, 4] rfl rfl (H _ _ _ hI)
    · replace H := H.2 c2
      refine ev_aload_n (pc1 := 182) rfl rfl (TBof tbs_77 _ rfl) rfl ?_
      refine ev_bipush (pc1 := 184) (x := 23) (by decide) (TBof tbs_77 _ rfl) rfl ?_
      refine ev_iload (pc1 := 186) rfl (TBof tbs_77 _ rfl) rfl ?_
      refine ev_iadd (pc1 := 187) (TBof tbs_77 _ rfl) rfl ?_
      refine ev_callsS (pc1 := 190) (as := [.retAddr 0, .int (23 + v4)]) (r := []) (TBof tbs_77 _ rfl) rfl (lnkof mo_77 ln_7_52) (Or.inl rfl) rfl na_70 (Nat.le_of_ble_eq_true rfl) (CN_cell hLb H.1 hI) (fun x3 M3 h3 D3 ⟨e3, hI⟩ => ?_)
      subst e3
      replace H := H.2
      refine ev_istore (pc1 := 192) (L1 := [(5, .int (cellV Lb xs (23 + v4))), (0, .retAddr 0), (1, .ref 0), (2, .int v2), (3, .int v3), (4, .int v4)]) (by rw [ml_77]; decide) rfl (TBof tbs_77 _ rfl) rfl ?_
      refine ev_iload (pc1 := 194) rfl (TBof tbs_77 _ rfl) rfl ?_
      refine ev_bipush (pc1 := 196) (x := 12) (by decide) (TBof tbs_77 _ rfl) rfl ?_
      refine ev_ishr (pc1 := 197) (TBof tbs_77 _ rfl) rfl ?_
      refine ev_iconst (pc1 := 198) (x := 3) (by decide) (TBof tbs_77 _ rfl) rfl ?_
      refine ev_irem (pc1 := 199) H.1 (TBof tbs_77 _ rfl) rfl ?_
      replace H := H.2
      refine ev_if (pc1 := 202) (t := 220) (TBof tbs_77 _ rfl) (by decide) rfl (fun c4 => ?_) (fun c4 => ?_)
      · replace H := H.1 c4
        refine ev_aload_n (pc1 := 221) rfl rfl (TBof tbs_77 _ rfl) rfl ?_
        refine ev_iload (pc1 := 223) rfl (TBof tbs_77 _ rfl) rfl ?_
        refine ev_callsS (pc1 := 226) (as := [.ref 0, .int (cellV Lb xs (23 + v4))]) (r := []) (TBof tbs_77 _ rfl) rfl (lnkof mo_77 ln_7_95) (Or.inl rfl) rfl na_76 (Nat.le_of_ble_eq_true rfl) (H _ _ _ hI) (fun x5 M5 h5 D5 ⟨A5, H, hI⟩ => ?_)
        obtain ⟨c5, hc5, hw, H⟩ := H
        exact ev_le [1, 2, 3, 4, 5, 0] rfl rfl (H _ _ _ hI)
      · replace H := H.2 c4
        refine ev_aload_n (pc1 := 203) rfl rfl (TBof tbs_77 _ rfl) rfl ?_
        refine ev_iload (pc1 := 205) rfl (TBof tbs_77 _ rfl) rfl ?_
        refine ev_bipush (pc1 := 207) (x := 16) (by decide) (TBof tbs_77 _ rfl) rfl ?_
        refine ev_ishr (pc1 := 208) (TBof tbs_77 _ rfl) rfl ?_
        refine ev_aload_n (pc1 := 209) rfl rfl (TBof tbs_77 _ rfl) rfl ?_
        refine ev_iconst (pc1 := 210) (x := 0) (by decide) (TBof tbs_77 _ rfl) rfl ?_
        refine ev_callvI (pc1 := 213) (as := [.int 0]) (r := [.int ((cellV Lb xs (23 + v4)) >>> (16 &&& 31)), .ref 0]) (TBof tbs_77 _ rfl) rfl (lnkof mo_77 ln_7_24) rfl na_56 ltc_0 (sh_0.trans (by rw [mo_56])) (Nat.le_of_ble_eq_true rfl) (CN_count hw hI) (fun x6 M6 h6 D6 ⟨e6, hI⟩ => ?_)
        subst e6
        refine ev_irem (pc1 := 214) H.1 (TBof tbs_77 _ rfl) rfl ?_
        replace H := H.2
        refine ev_callsS (pc1 := 217) (as := [.ref 0, .int (((cellV Lb xs (23 + v4)) >>> (16 &&& 31)) - ((cellV Lb xs (23 + v4)) >>> (16 &&& 31)) / (opCount (nOf A.1.1) A 0) * (opCount (nOf A.1.1) A 0))]) (r := []) (TBof tbs_77 _ rfl) rfl (lnkof mo_77 ln_7_92) (Or.inl rfl) rfl na_73 (Nat.le_of_ble_eq_true rfl) (H _ _ _ hI) (fun x7 M7 h7 D7 ⟨A7, H, hI⟩ => ?_)
        obtain ⟨c7, hc7, hw, H⟩ := H
        refine ev_goto (pc1 := 226) (TBof tbs_77 _ rfl) (by decide) ?_
        exact ev_le [1, 2, 3, 4, 5, 0] rfl rfl (H _ _ _ hI)
set_option maxRecDepth 100000 in
theorem R_L_law_226 {Lb : Nat} {xs : Nat → Int32} {c : Nat} {A : Ab} {v2 v3 v4 v5 s0 : Int32} {Q : Int32 → Ab → Prop} (hLb : Lb ≤ 260) (hc : c ≤ 400) (hw : wfA c A) (H : ((s0 = 0) → (EA (some (Lb, xs)) (9) nL_law 170 [(0, .retAddr 0), (1, .ref 0), (2, .int 0), (3, .int v3), (4, .int (v4 + 1))] [] A Q)) ∧ (¬ (s0 = 0) → ((opCount (nOf A.1.1) A 0) ≠ 0 ∧ (CA (some (Lb, xs)) (9) nL_isNeeded [.ref 0, .int ((v5 >>> (20 &&& 31)) - (v5 >>> (20 &&& 31)) / (opCount (nOf A.1.1) A 0) * (opCount (nOf A.1.1) A 0))] A (fun x3 A3 => ∃ c3, c3 ≤ 400 ∧ wfA c3 A3 ∧ (((x3 = 0) → (EA (some (Lb, xs)) (9) nL_law 170 [(0, .retAddr 0), (1, .ref 0), (2, .int 0), (3, .int v3), (4, .int (v4 + 1))] [] A3 Q)) ∧ (¬ (x3 = 0) → (CA (some (Lb, xs)) (9) nL_isAll [.ref 0] A3 (fun x5 A5 => ∃ c5, c5 ≤ 400 ∧ wfA c5 A5 ∧ (((x5 = 0) → (EA (some (Lb, xs)) (9) nL_law 170 [(0, .retAddr 0), (1, .ref 0), (2, .int 0), (3, .int v3), (4, .int (v4 + 1))] [] A5 Q)) ∧ (¬ (x5 = 0) → (∀ (x7 : Int32) (A7 : Ab), opBuild A5 (-5) 0 0 0 = (x7, A7) → (((¬ ((opCount (nOf A7.1.1) A7 0) = 16)) → (EA (some (Lb, xs)) (9) nL_law 282 [(0, .retAddr 0), (1, .ref 0), (2, .int s0), (3, .int v3), (4, .int v4), (5, .int v5)] [.int (-4), .int x7] A7 Q)) ∧ (¬ (¬ ((opCount (nOf A7.1.1) A7 0) = 16)) → (EA (some (Lb, xs)) (9) nL_law 282 [(0, .retAddr 0), (1, .ref 0), (2, .int s0), (3, .int v3), (4, .int v4), (5, .int v5)] [.int (-3), .int x7] A7 Q))))))))))))))) : EA (some (Lb, xs)) (9) nL_law 226 [(0, .retAddr 0), (1, .ref 0), (2, .int v2), (3, .int v3), (4, .int v4), (5, .int v5)] [.int s0] A Q := by
  intro M h D hI
  refine ev_istore_n (pc1 := 227) (L1 := [(2, .int s0), (0, .retAddr 0), (1, .ref 0), (3, .int v3), (4, .int v4), (5, .int v5)]) (by rw [ml_77]; decide) rfl (TBof tbs_77 _ rfl) rfl ?_
  refine ev_iload_n (pc1 := 228) rfl (TBof tbs_77 _ rfl) rfl ?_
  refine ev_if (pc1 := 231) (t := 302) (TBof tbs_77 _ rfl) (by decide) rfl (fun c1 => ?_) (fun c1 => ?_)
  · replace H := H.1 c1
    refine ev_iconst (pc1 := 303) (x := 0) (by decide) (TBof tbs_77 _ rfl) rfl ?_
    refine ev_istore_n (pc1 := 304) (L1 := [(2, .int 0), (0, .retAddr 0), (1, .ref 0), (3, .int v3), (4, .int v4), (5, .int v5)]) (by rw [ml_77]; decide) rfl (TBof tbs_77 _ rfl) rfl ?_
    refine ev_iinc (pc1 := 307) (n := 4) (c := 1) (x := v4) (cc := 1) (L1 := [(4, .int (v4 + 1)), (2, .int 0), (0, .retAddr 0), (1, .ref 0), (3, .int v3), (5, .int v5)]) rfl (by rw [ml_77]; decide) (by decide) rfl (TBof tbs_77 _ rfl) rfl ?_
    refine ev_goto (pc1 := 170) (TBof tbs_77 _ rfl) (by decide) ?_
    exact ev_le [2, 3, 1, 4, 0] rfl rfl (H _ _ _ hI)
  · replace H := H.2 c1
    refine ev_aload_n (pc1 := 232) rfl rfl (TBof tbs_77 _ rfl) rfl ?_
    refine ev_iload (pc1 := 234) rfl (TBof tbs_77 _ rfl) rfl ?_
    refine ev_bipush (pc1 := 236) (x := 20) (by decide) (TBof tbs_77 _ rfl) rfl ?_
    refine ev_ishr (pc1 := 237) (TBof tbs_77 _ rfl) rfl ?_
    refine ev_aload_n (pc1 := 238) rfl rfl (TBof tbs_77 _ rfl) rfl ?_
    refine ev_iconst (pc1 := 239) (x := 0) (by decide) (TBof tbs_77 _ rfl) rfl ?_
    refine ev_callvI (pc1 := 242) (as := [.int 0]) (r := [.int (v5 >>> (20 &&& 31)), .ref 0]) (TBof tbs_77 _ rfl) rfl (lnkof mo_77 ln_7_24) rfl na_56 ltc_0 (sh_0.trans (by rw [mo_56])) (Nat.le_of_ble_eq_true rfl) (CN_count hw hI) (fun x2 M2 h2 D2 ⟨e2, hI⟩ => ?_)
    subst e2
    refine ev_irem (pc1 := 243) H.1 (TBof tbs_77 _ rfl) rfl ?_
    replace H := H.2
    refine ev_callsS (pc1 := 246) (as := [.ref 0, .int ((v5 >>> (20 &&& 31)) - (v5 >>> (20 &&& 31)) / (opCount (nOf A.1.1) A 0) * (opCount (nOf A.1.1) A 0))]) (r := []) (TBof tbs_77 _ rfl) rfl (lnkof mo_77 ln_7_88) (Or.inl rfl) rfl na_72 (Nat.le_of_ble_eq_true rfl) (H _ _ _ hI) (fun x3 M3 h3 D3 ⟨A3, H, hI⟩ => ?_)
    obtain ⟨c3, hc3, hw, H⟩ := H
    refine ev_if (pc1 := 249) (t := 302) (TBof tbs_77 _ rfl) (by decide) rfl (fun c4 => ?_) (fun c4 => ?_)
    · replace H := H.1 c4
      refine ev_iconst (pc1 := 303) (x := 0) (by decide) (TBof tbs_77 _ rfl) rfl ?_
      refine ev_istore_n (pc1 := 304) (L1 := [(2, .int 0), (0, .retAddr 0), (1, .ref 0), (3, .int v3), (4, .int v4), (5, .int v5)]) (by rw [ml_77]; decide) rfl (TBof tbs_77 _ rfl) rfl ?_
      refine ev_iinc (pc1 := 307) (n := 4) (c := 1) (x := v4) (cc := 1) (L1 := [(4, .int (v4 + 1)), (2, .int 0), (0, .retAddr 0), (1, .ref 0), (3, .int v3), (5, .int v5)]) rfl (by rw [ml_77]; decide) (by decide) rfl (TBof tbs_77 _ rfl) rfl ?_
      refine ev_goto (pc1 := 170) (TBof tbs_77 _ rfl) (by decide) ?_
      exact ev_le [2, 3, 1, 4, 0] rfl rfl (H _ _ _ hI)
    · replace H := H.2 c4
      refine ev_aload_n (pc1 := 250) rfl rfl (TBof tbs_77 _ rfl) rfl ?_
      refine ev_callsS (pc1 := 253) (as := [.ref 0]) (r := []) (TBof tbs_77 _ rfl) rfl (lnkof mo_77 ln_7_98) (Or.inl rfl) rfl na_75 (Nat.le_of_ble_eq_true rfl) (H _ _ _ hI) (fun x5 M5 h5 D5 ⟨A5, H, hI⟩ => ?_)
      obtain ⟨c5, hc5, hw, H⟩ := H
      refine ev_if (pc1 := 256) (t := 302) (TBof tbs_77 _ rfl) (by decide) rfl (fun c6 => ?_) (fun c6 => ?_)
      · replace H := H.1 c6
        refine ev_iconst (pc1 := 303) (x := 0) (by decide) (TBof tbs_77 _ rfl) rfl ?_
        refine ev_istore_n (pc1 := 304) (L1 := [(2, .int 0), (0, .retAddr 0), (1, .ref 0), (3, .int v3), (4, .int v4), (5, .int v5)]) (by rw [ml_77]; decide) rfl (TBof tbs_77 _ rfl) rfl ?_
        refine ev_iinc (pc1 := 307) (n := 4) (c := 1) (x := v4) (cc := 1) (L1 := [(4, .int (v4 + 1)), (2, .int 0), (0, .retAddr 0), (1, .ref 0), (3, .int v3), (5, .int v5)]) rfl (by rw [ml_77]; decide) (by decide) rfl (TBof tbs_77 _ rfl) rfl ?_
        refine ev_goto (pc1 := 170) (TBof tbs_77 _ rfl) (by decide) ?_
        exact ev_le [2, 3, 1, 4, 0] rfl rfl (H _ _ _ hI)
      · replace H := H.2 c6
        refine ev_aload_n (pc1 := 257) rfl rfl (TBof tbs_77 _ rfl) rfl ?_
        refine ev_bipush (pc1 := 259) (x := (-5)) (by decide) (TBof tbs_77 _ rfl) rfl ?_
        refine ev_iconst (pc1 := 260) (x := 0) (by decide) (TBof tbs_77 _ rfl) rfl ?_
        refine ev_iconst (pc1 := 261) (x := 0) (by decide) (TBof tbs_77 _ rfl) rfl ?_
        refine ev_iconst (pc1 := 262) (x := 0) (by decide) (TBof tbs_77 _ rfl) rfl ?_
        refine ev_callvI (pc1 := 265) (as := [.int (-5), .int 0, .int 0, .int 0]) (r := []) (TBof tbs_77 _ rfl) rfl (lnkof mo_77 ln_7_56) rfl na_39 ltc_0 (sh_0.trans (by rw [mo_39])) (Nat.le_of_ble_eq_true rfl) (CN_build hw hI) (fun x7 M7 h7 D7 ⟨A7, q7, hI, hw⟩ => ?_)
        replace H := H x7 A7 q7
        refine ev_aload_n (pc1 := 266) rfl rfl (TBof tbs_77 _ rfl) rfl ?_
        refine ev_iconst (pc1 := 267) (x := 0) (by decide) (TBof tbs_77 _ rfl) rfl ?_
        refine ev_callvI (pc1 := 270) (as := [.int 0]) (r := [.int x7]) (TBof tbs_77 _ rfl) rfl (lnkof mo_77 ln_7_24) rfl na_56 ltc_0 (sh_0.trans (by rw [mo_56])) (Nat.le_of_ble_eq_true rfl) (CN_count hw hI) (fun x8 M8 h8 D8 ⟨e8, hI⟩ => ?_)
        subst e8
        refine ev_bipush (pc1 := 272) (x := 16) (by decide) (TBof tbs_77 _ rfl) rfl ?_
        refine ev_icmp (pc1 := 275) (t := 280) (TBof tbs_77 _ rfl) (by decide) rfl (fun c9 => ?_) (fun c9 => ?_)
        · replace H := H.1 c9
          refine ev_bipush (pc1 := 282) (x := (-4)) (by decide) (TBof tbs_77 _ rfl) rfl ?_
          exact ev_le [1, 2, 0, 3, 4, 5] rfl rfl (H _ _ _ hI)
        · replace H := H.2 c9
          refine ev_bipush (pc1 := 277) (x := (-3)) (by decide) (TBof tbs_77 _ rfl) rfl ?_
          refine ev_goto (pc1 := 282) (TBof tbs_77 _ rfl) (by decide) ?_
          exact ev_le [1, 2, 0, 3, 4, 5] rfl rfl (H _ _ _ hI)
set_option maxRecDepth 100000 in
theorem R_L_law_282 {Lb : Nat} {xs : Nat → Int32} {c : Nat} {A : Ab} {v2 v3 v4 v5 s0 s1 : Int32} {Q : Int32 → Ab → Prop} (hLb : Lb ≤ 260) (hc : c ≤ 400) (hw : wfA c A) (H : ((¬ (s1 = s0)) → (EA (some (Lb, xs)) (9) nL_law 170 [(0, .retAddr 0), (1, .ref 0), (2, .int 0), (3, .int v3), (4, .int (v4 + 1))] [] A Q)) ∧ (¬ (¬ (s1 = s0)) → (∀ (x2 : Int32) (A2 : Ab), opLay A 0 (-5) 0 = (x2, A2) → (((¬ (x2 = (-4))) → (EA (some (Lb, xs)) (9) nL_law 170 [(0, .retAddr 0), (1, .ref 0), (2, .int 0), (3, .int v3), (4, .int (v4 + 1))] [] A2 Q)) ∧ (¬ (¬ (x2 = (-4))) → (EA (some (Lb, xs)) (9) nL_law 170 [(0, .retAddr 0), (1, .ref 0), (2, .int 1), (3, .int v3), (4, .int (v4 + 1))] [] A2 Q)))))) : EA (some (Lb, xs)) (9) nL_law 282 [(0, .retAddr 0), (1, .ref 0), (2, .int v2), (3, .int v3), (4, .int v4), (5, .int v5)] [.int s0, .int s1] A Q := by
  intro M h D hI
  refine ev_icmp (pc1 := 285) (t := 302) (TBof tbs_77 _ rfl) (by decide) rfl (fun c1 => ?_) (fun c1 => ?_)
  · replace H := H.1 c1
    refine ev_iconst (pc1 := 303) (x := 0) (by decide) (TBof tbs_77 _ rfl) rfl ?_
    refine ev_istore_n (pc1 := 304) (L1 := [(2, .int 0), (0, .retAddr 0), (1, .ref 0), (3, .int v3), (4, .int v4), (5, .int v5)]) (by rw [ml_77]; decide) rfl (TBof tbs_77 _ rfl) rfl ?_
    refine ev_iinc (pc1 := 307) (n := 4) (c := 1) (x := v4) (cc := 1) (L1 := [(4, .int (v4 + 1)), (2, .int 0), (0, .retAddr 0), (1, .ref 0), (3, .int v3), (5, .int v5)]) rfl (by rw [ml_77]; decide) (by decide) rfl (TBof tbs_77 _ rfl) rfl ?_
    refine ev_goto (pc1 := 170) (TBof tbs_77 _ rfl) (by decide) ?_
    exact ev_le [2, 3, 1, 4, 0] rfl rfl (H _ _ _ hI)
  · replace H := H.2 c1
    refine ev_aload_n (pc1 := 286) rfl rfl (TBof tbs_77 _ rfl) rfl ?_
    refine ev_iconst (pc1 := 287) (x := 0) (by decide) (TBof tbs_77 _ rfl) rfl ?_
    refine ev_bipush (pc1 := 289) (x := (-5)) (by decide) (TBof tbs_77 _ rfl) rfl ?_
    refine ev_iconst (pc1 := 290) (x := 0) (by decide) (TBof tbs_77 _ rfl) rfl ?_
    refine ev_callvI (pc1 := 293) (as := [.int 0, .int (-5), .int 0]) (r := []) (TBof tbs_77 _ rfl) rfl (lnkof mo_77 ln_7_63) rfl na_41 ltc_0 (sh_0.trans (by rw [mo_41])) (Nat.le_of_ble_eq_true rfl) (CN_lay hw hI) (fun x2 M2 h2 D2 ⟨A2, q2, hI, hw⟩ => ?_)
    replace H := H x2 A2 q2
    refine ev_bipush (pc1 := 295) (x := (-4)) (by decide) (TBof tbs_77 _ rfl) rfl ?_
    refine ev_icmp (pc1 := 298) (t := 302) (TBof tbs_77 _ rfl) (by decide) rfl (fun c3 => ?_) (fun c3 => ?_)
    · replace H := H.1 c3
      refine ev_iconst (pc1 := 303) (x := 0) (by decide) (TBof tbs_77 _ rfl) rfl ?_
      refine ev_istore_n (pc1 := 304) (L1 := [(2, .int 0), (0, .retAddr 0), (1, .ref 0), (3, .int v3), (4, .int v4), (5, .int v5)]) (by rw [ml_77]; decide) rfl (TBof tbs_77 _ rfl) rfl ?_
      refine ev_iinc (pc1 := 307) (n := 4) (c := 1) (x := v4) (cc := 1) (L1 := [(4, .int (v4 + 1)), (2, .int 0), (0, .retAddr 0), (1, .ref 0), (3, .int v3), (5, .int v5)]) rfl (by rw [ml_77]; decide) (by decide) rfl (TBof tbs_77 _ rfl) rfl ?_
      refine ev_goto (pc1 := 170) (TBof tbs_77 _ rfl) (by decide) ?_
      exact ev_le [2, 3, 1, 4, 0] rfl rfl (H _ _ _ hI)
    · replace H := H.2 c3
      refine ev_iconst (pc1 := 299) (x := 1) (by decide) (TBof tbs_77 _ rfl) rfl ?_
      refine ev_goto (pc1 := 303) (TBof tbs_77 _ rfl) (by decide) ?_
      refine ev_istore_n (pc1 := 304) (L1 := [(2, .int 1), (0, .retAddr 0), (1, .ref 0), (3, .int v3), (4, .int v4), (5, .int v5)]) (by rw [ml_77]; decide) rfl (TBof tbs_77 _ rfl) rfl ?_
      refine ev_iinc (pc1 := 307) (n := 4) (c := 1) (x := v4) (cc := 1) (L1 := [(4, .int (v4 + 1)), (2, .int 1), (0, .retAddr 0), (1, .ref 0), (3, .int v3), (5, .int v5)]) rfl (by rw [ml_77]; decide) (by decide) rfl (TBof tbs_77 _ rfl) rfl ?_
      refine ev_goto (pc1 := 170) (TBof tbs_77 _ rfl) (by decide) ?_
      exact ev_le [2, 3, 1, 4, 0] rfl rfl (H _ _ _ hI)
set_option maxRecDepth 100000 in
theorem R_L_law_310 {Lb : Nat} {xs : Nat → Int32} {c : Nat} {A : Ab} {v2 v3 v4 : Int32} {Q : Int32 → Ab → Prop} (hLb : Lb ≤ 260) (hc : c ≤ 400) (hw : wfA c A) (H : ((v2 = 0) → (Q 0 A)) ∧ (¬ (v2 = 0) → (((¬ ((opCount (nOf A.1.1) A 7) = v3)) → (Q 0 A)) ∧ (¬ (¬ ((opCount (nOf A.1.1) A 7) = v3)) → (∀ (x5 : Int32) (A5 : Ab), opGiveUp A = (x5, A5) → (((¬ (x5 = (opCount (nOf A.1.1) A 5))) → (Q 0 A5)) ∧ (¬ (¬ (x5 = (opCount (nOf A.1.1) A 5))) → (((¬ ((Op.cmpValue (FP.dcmp (mnd A5.1.1 A5.1.2) 13830554455654793216) CmpOp.l) = 0)) → (Q 0 A5)) ∧ (¬ (¬ ((Op.cmpValue (FP.dcmp (mnd A5.1.1 A5.1.2) 13830554455654793216) CmpOp.l) = 0)) → (((¬ ((opCount (nOf A5.1.1) A5 2) = 0)) → (Q 0 A5)) ∧ (¬ (¬ ((opCount (nOf A5.1.1) A5 2) = 0)) → (((¬ ((opCount (nOf A5.1.1) A5 3) = 0)) → (Q 0 A5)) ∧ (¬ (¬ ((opCount (nOf A5.1.1) A5 3) = 0)) → (∀ (x13 : Int32) (A13 : Ab), opUndo A5 = (x13, A13) → (((x13 < 0) → (Q 0 A13)) ∧ (¬ (x13 < 0) → (((¬ ((opCount (nOf A13.1.1) A13 5) = (opCount (nOf A.1.1) A 5))) → (Q 0 A13)) ∧ (¬ (¬ ((opCount (nOf A13.1.1) A13 5) = (opCount (nOf A.1.1) A 5))) → (CA (some (Lb, xs)) (9) nL_isAll [.ref 0] A13 (fun x17 A17 => ∃ c17, c17 ≤ 400 ∧ wfA c17 A17 ∧ (((x17 = 0) → (Q 0 A17)) ∧ (¬ (x17 = 0) → (Q 1 A17))))))))))))))))))))))) : EA (some (Lb, xs)) (9) nL_law 310 [(0, .retAddr 0), (1, .ref 0), (2, .int v2), (3, .int v3), (4, .int v4)] [] A Q := by
  intro M h D hI
  refine ev_aload_n (pc1 := 311) rfl rfl (TBof tbs_77 _ rfl) rfl ?_
  refine ev_iconst (pc1 := 312) (x := 5) (by decide) (TBof tbs_77 _ rfl) rfl ?_
  refine ev_callvI (pc1 := 315) (as := [.int 5]) (r := []) (TBof tbs_77 _ rfl) rfl (lnkof mo_77 ln_7_24) rfl na_56 ltc_0 (sh_0.trans (by rw [mo_56])) (Nat.le_of_ble_eq_true rfl) (CN_count hw hI) (fun x1 M1 h1 D1 ⟨e1, hI⟩ => ?_)
  subst e1
  refine ev_istore (pc1 := 317) (L1 := [(4, .int (opCount (nOf A.1.1) A 5)), (0, .retAddr 0), (1, .ref 0), (2, .int v2), (3, .int v3)]) (by rw [ml_77]; decide) rfl (TBof tbs_77 _ rfl) rfl ?_
  refine ev_iload_n (pc1 := 318) rfl (TBof tbs_77 _ rfl) rfl ?_
  refine ev_if (pc1 := 321) (t := 395) (TBof tbs_77 _ rfl) (by decide) rfl (fun c2 => ?_) (fun c2 => ?_)
  · replace H := H.1 c2
    refine ev_iconst (pc1 := 396) (x := 0) (by decide) (TBof tbs_77 _ rfl) rfl ?_
    exact ev_ireturn (TBof tbs_77 _ rfl) (retI_z rt_77 (Or.inl rfl)) ⟨_, rfl, _, H, hI⟩
  · replace H := H.2 c2
    refine ev_aload_n (pc1 := 322) rfl rfl (TBof tbs_77 _ rfl) rfl ?_
    refine ev_bipush (pc1 := 324) (x := 7) (by decide) (TBof tbs_77 _ rfl) rfl ?_
    refine ev_callvI (pc1 := 327) (as := [.int 7]) (r := []) (TBof tbs_77 _ rfl) rfl (lnkof mo_77 ln_7_24) rfl na_56 ltc_0 (sh_0.trans (by rw [mo_56])) (Nat.le_of_ble_eq_true rfl) (CN_count hw hI) (fun x3 M3 h3 D3 ⟨e3, hI⟩ => ?_)
    subst e3
    refine ev_iload_n (pc1 := 328) rfl (TBof tbs_77 _ rfl) rfl ?_
    refine ev_icmp (pc1 := 331) (t := 395) (TBof tbs_77 _ rfl) (by decide) rfl (fun c4 => ?_) (fun c4 => ?_)
    · replace H := H.1 c4
      refine ev_iconst (pc1 := 396) (x := 0) (by decide) (TBof tbs_77 _ rfl) rfl ?_
      exact ev_ireturn (TBof tbs_77 _ rfl) (retI_z rt_77 (Or.inl rfl)) ⟨_, rfl, _, H, hI⟩
    · replace H := H.2 c4
      refine ev_aload_n (pc1 := 332) rfl rfl (TBof tbs_77 _ rfl) rfl ?_
      refine ev_callvI (pc1 := 335) (as := []) (r := []) (TBof tbs_77 _ rfl) rfl (lnkof mo_77 ln_7_102) rfl na_43 ltc_0 (sh_0.trans (by rw [mo_43])) (Nat.le_of_ble_eq_true rfl) (CN_giveUp hw hI) (fun x5 M5 h5 D5 ⟨A5, q5, hI, hw⟩ => ?_)
      replace H := H x5 A5 q5
      refine ev_iload (pc1 := 337) rfl (TBof tbs_77 _ rfl) rfl ?_
      refine ev_icmp (pc1 := 340) (t := 395) (TBof tbs_77 _ rfl) (by decide) rfl (fun c6 => ?_) (fun c6 => ?_)
      · replace H := H.1 c6
        refine ev_iconst (pc1 := 396) (x := 0) (by decide) (TBof tbs_77 _ rfl) rfl ?_
        exact ev_ireturn (TBof tbs_77 _ rfl) (retI_z rt_77 (Or.inl rfl)) ⟨_, rfl, _, H, hI⟩
      · replace H := H.2 c6
        refine ev_aload_n (pc1 := 341) rfl rfl (TBof tbs_77 _ rfl) rfl ?_
        refine ev_callvD (pc1 := 344) (as := []) (r := []) (TBof tbs_77 _ rfl) rfl (lnkof mo_77 ln_7_33) rfl na_54 ltc_0 (sh_0.trans (by rw [mo_54])) (Nat.le_of_ble_eq_true rfl) (CN_minutes (by omega) hw hI) (fun x7 M7 h7 D7 ⟨e7, hI⟩ => ?_)
        subst e7
        refine ev_ldc2_w (pc1 := 347) (x := 13830554455654793216) rfl (TBof tbs_77 _ rfl) rfl ?_
        refine ev_dcmp (pc1 := 348) (TBof tbs_77 _ rfl) rfl ?_
        refine ev_if (pc1 := 351) (t := 395) (TBof tbs_77 _ rfl) (by decide) rfl (fun c8 => ?_) (fun c8 => ?_)
        · replace H := H.1 c8
          refine ev_iconst (pc1 := 396) (x := 0) (by decide) (TBof tbs_77 _ rfl) rfl ?_
          exact ev_ireturn (TBof tbs_77 _ rfl) (retI_z rt_77 (Or.inl rfl)) ⟨_, rfl, _, H, hI⟩
        · replace H := H.2 c8
          refine ev_aload_n (pc1 := 352) rfl rfl (TBof tbs_77 _ rfl) rfl ?_
          refine ev_iconst (pc1 := 353) (x := 2) (by decide) (TBof tbs_77 _ rfl) rfl ?_
          refine ev_callvI (pc1 := 356) (as := [.int 2]) (r := []) (TBof tbs_77 _ rfl) rfl (lnkof mo_77 ln_7_24) rfl na_56 ltc_0 (sh_0.trans (by rw [mo_56])) (Nat.le_of_ble_eq_true rfl) (CN_count hw hI) (fun x9 M9 h9 D9 ⟨e9, hI⟩ => ?_)
          subst e9
          refine ev_if (pc1 := 359) (t := 395) (TBof tbs_77 _ rfl) (by decide) rfl (fun c10 => ?_) (fun c10 => ?_)
          · replace H := H.1 c10
            refine ev_iconst (pc1 := 396) (x := 0) (by decide) (TBof tbs_77 _ rfl) rfl ?_
            exact ev_ireturn (TBof tbs_77 _ rfl) (retI_z rt_77 (Or.inl rfl)) ⟨_, rfl, _, H, hI⟩
          · replace H := H.2 c10
            refine ev_aload_n (pc1 := 360) rfl rfl (TBof tbs_77 _ rfl) rfl ?_
            refine ev_iconst (pc1 := 361) (x := 3) (by decide) (TBof tbs_77 _ rfl) rfl ?_
            refine ev_callvI (pc1 := 364) (as := [.int 3]) (r := []) (TBof tbs_77 _ rfl) rfl (lnkof mo_77 ln_7_24) rfl na_56 ltc_0 (sh_0.trans (by rw [mo_56])) (Nat.le_of_ble_eq_true rfl) (CN_count hw hI) (fun x11 M11 h11 D11 ⟨e11, hI⟩ => ?_)
            subst e11
            refine ev_if (pc1 := 367) (t := 395) (TBof tbs_77 _ rfl) (by decide) rfl (fun c12 => ?_) (fun c12 => ?_)
            · replace H := H.1 c12
              refine ev_iconst (pc1 := 396) (x := 0) (by decide) (TBof tbs_77 _ rfl) rfl ?_
              exact ev_ireturn (TBof tbs_77 _ rfl) (retI_z rt_77 (Or.inl rfl)) ⟨_, rfl, _, H, hI⟩
            · replace H := H.2 c12
              refine ev_aload_n (pc1 := 368) rfl rfl (TBof tbs_77 _ rfl) rfl ?_
              refine ev_callvI (pc1 := 371) (as := []) (r := []) (TBof tbs_77 _ rfl) rfl (lnkof mo_77 ln_7_78) rfl na_49 ltc_0 (sh_0.trans (by rw [mo_49])) (Nat.le_of_ble_eq_true rfl) (CN_undo hw hI) (fun x13 M13 h13 D13 ⟨A13, q13, hI, hw⟩ => ?_)
              replace H := H x13 A13 q13
              refine ev_if (pc1 := 374) (t := 395) (TBof tbs_77 _ rfl) (by decide) rfl (fun c14 => ?_) (fun c14 => ?_)
              · replace H := H.1 c14
                refine ev_iconst (pc1 := 396) (x := 0) (by decide) (TBof tbs_77 _ rfl) rfl ?_
                exact ev_ireturn (TBof tbs_77 _ rfl) (retI_z rt_77 (Or.inl rfl)) ⟨_, rfl, _, H, hI⟩
              · replace H := H.2 c14
                refine ev_aload_n (pc1 := 375) rfl rfl (TBof tbs_77 _ rfl) rfl ?_
                refine ev_iconst (pc1 := 376) (x := 5) (by decide) (TBof tbs_77 _ rfl) rfl ?_
                refine ev_callvI (pc1 := 379) (as := [.int 5]) (r := []) (TBof tbs_77 _ rfl) rfl (lnkof mo_77 ln_7_24) rfl na_56 ltc_0 (sh_0.trans (by rw [mo_56])) (Nat.le_of_ble_eq_true rfl) (CN_count hw hI) (fun x15 M15 h15 D15 ⟨e15, hI⟩ => ?_)
                subst e15
                refine ev_iload (pc1 := 381) rfl (TBof tbs_77 _ rfl) rfl ?_
                refine ev_icmp (pc1 := 384) (t := 395) (TBof tbs_77 _ rfl) (by decide) rfl (fun c16 => ?_) (fun c16 => ?_)
                · replace H := H.1 c16
                  refine ev_iconst (pc1 := 396) (x := 0) (by decide) (TBof tbs_77 _ rfl) rfl ?_
                  exact ev_ireturn (TBof tbs_77 _ rfl) (retI_z rt_77 (Or.inl rfl)) ⟨_, rfl, _, H, hI⟩
                · replace H := H.2 c16
                  refine ev_aload_n (pc1 := 385) rfl rfl (TBof tbs_77 _ rfl) rfl ?_
                  refine ev_callsS (pc1 := 388) (as := [.ref 0]) (r := []) (TBof tbs_77 _ rfl) rfl (lnkof mo_77 ln_7_98) (Or.inl rfl) rfl na_75 (Nat.le_of_ble_eq_true rfl) (H _ _ _ hI) (fun x17 M17 h17 D17 ⟨A17, H, hI⟩ => ?_)
                  obtain ⟨c17, hc17, hw, H⟩ := H
                  refine ev_if (pc1 := 391) (t := 395) (TBof tbs_77 _ rfl) (by decide) rfl (fun c18 => ?_) (fun c18 => ?_)
                  · replace H := H.1 c18
                    refine ev_iconst (pc1 := 396) (x := 0) (by decide) (TBof tbs_77 _ rfl) rfl ?_
                    exact ev_ireturn (TBof tbs_77 _ rfl) (retI_z rt_77 (Or.inl rfl)) ⟨_, rfl, _, H, hI⟩
                  · replace H := H.2 c18
                    refine ev_iconst (pc1 := 392) (x := 1) (by decide) (TBof tbs_77 _ rfl) rfl ?_
                    refine ev_goto (pc1 := 396) (TBof tbs_77 _ rfl) (by decide) ?_
                    exact ev_ireturn (TBof tbs_77 _ rfl) (retI_z rt_77 (Or.inr rfl)) ⟨_, rfl, _, H, hI⟩

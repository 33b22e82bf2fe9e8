/-! what each block of the law asks: isNeeded -/
set_option maxRecDepth 100000 in
theorem R_L_isNeeded_0 {scr : Option (Nat × (Nat → Int32))} {e : Nat} {c : Nat} {A : Ab} {v1 : Int32} {Q : Int32 → Ab → Prop} (hc : c ≤ 400) (hw : wfA c A) (H : ((0 ≤ (opNeeds (nOf A.1.1) A.1.1 v1 0)) → (((¬ ((opNeeds (nOf A.1.1) A.1.1 v1 0) = (((bitsV (opNeeds (nOf A.1.1) A.1.1 v1 1)) + (bitsV (opNeeds (nOf A.1.1) A.1.1 v1 2))) + (opNeeds (nOf A.1.1) A.1.1 v1 3)))) → (EA scr (e + 8) nL_isNeeded 109 [(0, .ref 0), (1, .int v1), (2, .int (opNeeds (nOf A.1.1) A.1.1 v1 0)), (3, .int (opNeeds (nOf A.1.1) A.1.1 v1 1)), (4, .int (opNeeds (nOf A.1.1) A.1.1 v1 2))] [.int 0] A Q)) ∧ (¬ (¬ ((opNeeds (nOf A.1.1) A.1.1 v1 0) = (((bitsV (opNeeds (nOf A.1.1) A.1.1 v1 1)) + (bitsV (opNeeds (nOf A.1.1) A.1.1 v1 2))) + (opNeeds (nOf A.1.1) A.1.1 v1 3)))) → ((((bitsV (opNeeds (nOf A.1.1) A.1.1 v1 1)) < (opNeeds (nOf A.1.1) A.1.1 v1 4)) → (EA scr (e + 8) nL_isNeeded 109 [(0, .ref 0), (1, .int v1), (2, .int (opNeeds (nOf A.1.1) A.1.1 v1 0)), (3, .int (opNeeds (nOf A.1.1) A.1.1 v1 1)), (4, .int (opNeeds (nOf A.1.1) A.1.1 v1 2))] [.int 0] A Q)) ∧ (¬ ((bitsV (opNeeds (nOf A.1.1) A.1.1 v1 1)) < (opNeeds (nOf A.1.1) A.1.1 v1 4)) → (((¬ (((opNeeds (nOf A.1.1) A.1.1 v1 2) &&& (opCount (nOf A.1.1) A 3)) = 0)) → (EA scr (e + 8) nL_isNeeded 109 [(0, .ref 0), (1, .int v1), (2, .int (opNeeds (nOf A.1.1) A.1.1 v1 0)), (3, .int (opNeeds (nOf A.1.1) A.1.1 v1 1)), (4, .int (opNeeds (nOf A.1.1) A.1.1 v1 2))] [.int 0] A Q)) ∧ (¬ (¬ (((opNeeds (nOf A.1.1) A.1.1 v1 2) &&& (opCount (nOf A.1.1) A 3)) = 0)) → (EA scr (e + 8) nL_isNeeded 109 [(0, .ref 0), (1, .int v1), (2, .int (opNeeds (nOf A.1.1) A.1.1 v1 0)), (3, .int (opNeeds (nOf A.1.1) A.1.1 v1 1)), (4, .int (opNeeds (nOf A.1.1) A.1.1 v1 2))] [.int 1] A Q)))))))) ∧ (¬ (0 ≤ (opNeeds (nOf A.1.1) A.1.1 v1 0)) → (((¬ ((opNeeds (nOf A.1.1) A.1.1 v1 0) = (-4))) → (Q 0 A)) ∧ (¬ (¬ ((opNeeds (nOf A.1.1) A.1.1 v1 0) = (-4))) → (((¬ ((opNeeds (nOf A.1.1) A.1.1 v1 1) = (-4))) → (Q 0 A)) ∧ (¬ (¬ ((opNeeds (nOf A.1.1) A.1.1 v1 1) = (-4))) → (((¬ ((opHint (nOf A.1.1) A.1.1 v1) = (-4))) → (Q 0 A)) ∧ (¬ (¬ ((opHint (nOf A.1.1) A.1.1 v1) = (-4))) → (Q 1 A))))))))) : EA scr (e + 8) nL_isNeeded 0 [(0, .ref 0), (1, .int v1)] [] A Q := by
  intro M h D hI
  refine ev_aload_n (pc1 := 1) rfl rfl (TBof tbs_72 _ rfl) rfl ?_
  refine ev_iload_n (pc1 := 2) rfl (TBof tbs_72 _ rfl) rfl ?_
  refine ev_iconst (pc1 := 3) (x := 0) (by decide) (TBof tbs_72 _ rfl) rfl ?_
  refine ev_callvI (pc1 := 6) (as := [.int v1, .int 0]) (r := []) (TBof tbs_72 _ rfl) rfl (lnkof mo_72 ln_7_9) rfl na_52 ltc_0 (sh_0.trans (by rw [mo_52])) (Nat.le_of_ble_eq_true rfl) (CN_needs hw hI) (fun x1 M1 h1 D1 ⟨e1, hI⟩ => ?_)
  subst e1
  refine ev_istore_n (pc1 := 7) (L1 := [(2, .int (opNeeds (nOf A.1.1) A.1.1 v1 0)), (0, .ref 0), (1, .int v1)]) (by rw [ml_72]; decide) rfl (TBof tbs_72 _ rfl) rfl ?_
  refine ev_iload_n (pc1 := 8) rfl (TBof tbs_72 _ rfl) rfl ?_
  refine ev_if (pc1 := 11) (t := 44) (TBof tbs_72 _ rfl) (by decide) rfl (fun c2 => ?_) (fun c2 => ?_)
  · replace H := H.1 c2
    refine ev_aload_n (pc1 := 45) rfl rfl (TBof tbs_72 _ rfl) rfl ?_
    refine ev_iload_n (pc1 := 46) rfl (TBof tbs_72 _ rfl) rfl ?_
    refine ev_iconst (pc1 := 47) (x := 1) (by decide) (TBof tbs_72 _ rfl) rfl ?_
    refine ev_callvI (pc1 := 50) (as := [.int v1, .int 1]) (r := []) (TBof tbs_72 _ rfl) rfl (lnkof mo_72 ln_7_9) rfl na_52 ltc_0 (sh_0.trans (by rw [mo_52])) (Nat.le_of_ble_eq_true rfl) (CN_needs hw hI) (fun x3 M3 h3 D3 ⟨e3, hI⟩ => ?_)
    subst e3
    refine ev_istore_n (pc1 := 51) (L1 := [(3, .int (opNeeds (nOf A.1.1) A.1.1 v1 1)), (2, .int (opNeeds (nOf A.1.1) A.1.1 v1 0)), (0, .ref 0), (1, .int v1)]) (by rw [ml_72]; decide) rfl (TBof tbs_72 _ rfl) rfl ?_
    refine ev_aload_n (pc1 := 52) rfl rfl (TBof tbs_72 _ rfl) rfl ?_
    refine ev_iload_n (pc1 := 53) rfl (TBof tbs_72 _ rfl) rfl ?_
    refine ev_iconst (pc1 := 54) (x := 2) (by decide) (TBof tbs_72 _ rfl) rfl ?_
    refine ev_callvI (pc1 := 57) (as := [.int v1, .int 2]) (r := []) (TBof tbs_72 _ rfl) rfl (lnkof mo_72 ln_7_9) rfl na_52 ltc_0 (sh_0.trans (by rw [mo_52])) (Nat.le_of_ble_eq_true rfl) (CN_needs hw hI) (fun x4 M4 h4 D4 ⟨e4, hI⟩ => ?_)
    subst e4
    refine ev_istore (pc1 := 59) (L1 := [(4, .int (opNeeds (nOf A.1.1) A.1.1 v1 2)), (3, .int (opNeeds (nOf A.1.1) A.1.1 v1 1)), (2, .int (opNeeds (nOf A.1.1) A.1.1 v1 0)), (0, .ref 0), (1, .int v1)]) (by rw [ml_72]; decide) rfl (TBof tbs_72 _ rfl) rfl ?_
    refine ev_iload_n (pc1 := 60) rfl (TBof tbs_72 _ rfl) rfl ?_
    refine ev_iload_n (pc1 := 61) rfl (TBof tbs_72 _ rfl) rfl ?_
    refine ev_callsS (pc1 := 64) (as := [.int (opNeeds (nOf A.1.1) A.1.1 v1 1)]) (r := [.int (opNeeds (nOf A.1.1) A.1.1 v1 0)]) (TBof tbs_72 _ rfl) rfl (lnkof mo_72 ln_7_19) (Or.inl rfl) rfl na_71 (Nat.le_of_ble_eq_true rfl) (CN_bits hI) (fun x5 M5 h5 D5 ⟨e5, hI⟩ => ?_)
    subst e5
    refine ev_iload (pc1 := 66) rfl (TBof tbs_72 _ rfl) rfl ?_
    refine ev_callsS (pc1 := 69) (as := [.int (opNeeds (nOf A.1.1) A.1.1 v1 2)]) (r := [.int (bitsV (opNeeds (nOf A.1.1) A.1.1 v1 1)), .int (opNeeds (nOf A.1.1) A.1.1 v1 0)]) (TBof tbs_72 _ rfl) rfl (lnkof mo_72 ln_7_19) (Or.inl rfl) rfl na_71 (Nat.le_of_ble_eq_true rfl) (CN_bits hI) (fun x6 M6 h6 D6 ⟨e6, hI⟩ => ?_)
    subst e6
    refine ev_iadd (pc1 := 70) (TBof tbs_72 _ rfl) rfl ?_
    refine ev_aload_n (pc1 := 71) rfl rfl (TBof tbs_72 _ rfl) rfl ?_
    refine ev_iload_n (pc1 := 72) rfl (TBof tbs_72 _ rfl) rfl ?_
    refine ev_iconst (pc1 := 73) (x := 3) (by decide) (TBof tbs_72 _ rfl) rfl ?_
    refine ev_callvI (pc1 := 76) (as := [.int v1, .int 3]) (r := [.int ((bitsV (opNeeds (nOf A.1.1) A.1.1 v1 1)) + (bitsV (opNeeds (nOf A.1.1) A.1.1 v1 2))), .int (opNeeds (nOf A.1.1) A.1.1 v1 0)]) (TBof tbs_72 _ rfl) rfl (lnkof mo_72 ln_7_9) rfl na_52 ltc_0 (sh_0.trans (by rw [mo_52])) (Nat.le_of_ble_eq_true rfl) (CN_needs hw hI) (fun x7 M7 h7 D7 ⟨e7, hI⟩ => ?_)
    subst e7
    refine ev_iadd (pc1 := 77) (TBof tbs_72 _ rfl) rfl ?_
    refine ev_icmp (pc1 := 80) (t := 108) (TBof tbs_72 _ rfl) (by decide) rfl (fun c8 => ?_) (fun c8 => ?_)
    · replace H := H.1 c8
      refine ev_iconst (pc1 := 109) (x := 0) (by decide) (TBof tbs_72 _ rfl) rfl ?_
      exact ev_le [3, 4, 2, 1, 0] rfl rfl (H _ _ _ hI)
    · replace H := H.2 c8
      refine ev_aload_n (pc1 := 81) rfl rfl (TBof tbs_72 _ rfl) rfl ?_
      refine ev_iload_n (pc1 := 82) rfl (TBof tbs_72 _ rfl) rfl ?_
      refine ev_iconst (pc1 := 83) (x := 4) (by decide) (TBof tbs_72 _ rfl) rfl ?_
      refine ev_callvI (pc1 := 86) (as := [.int v1, .int 4]) (r := []) (TBof tbs_72 _ rfl) rfl (lnkof mo_72 ln_7_9) rfl na_52 ltc_0 (sh_0.trans (by rw [mo_52])) (Nat.le_of_ble_eq_true rfl) (CN_needs hw hI) (fun x9 M9 h9 D9 ⟨e9, hI⟩ => ?_)
      subst e9
      refine ev_iload_n (pc1 := 87) rfl (TBof tbs_72 _ rfl) rfl ?_
      refine ev_callsS (pc1 := 90) (as := [.int (opNeeds (nOf A.1.1) A.1.1 v1 1)]) (r := [.int (opNeeds (nOf A.1.1) A.1.1 v1 4)]) (TBof tbs_72 _ rfl) rfl (lnkof mo_72 ln_7_19) (Or.inl rfl) rfl na_71 (Nat.le_of_ble_eq_true rfl) (CN_bits hI) (fun x10 M10 h10 D10 ⟨e10, hI⟩ => ?_)
      subst e10
      refine ev_icmp (pc1 := 93) (t := 108) (TBof tbs_72 _ rfl) (by decide) rfl (fun c11 => ?_) (fun c11 => ?_)
      · replace H := H.1 c11
        refine ev_iconst (pc1 := 109) (x := 0) (by decide) (TBof tbs_72 _ rfl) rfl ?_
        exact ev_le [3, 4, 2, 1, 0] rfl rfl (H _ _ _ hI)
      · replace H := H.2 c11
        refine ev_iload (pc1 := 95) rfl (TBof tbs_72 _ rfl) rfl ?_
        refine ev_aload_n (pc1 := 96) rfl rfl (TBof tbs_72 _ rfl) rfl ?_
        refine ev_iconst (pc1 := 97) (x := 3) (by decide) (TBof tbs_72 _ rfl) rfl ?_
        refine ev_callvI (pc1 := 100) (as := [.int 3]) (r := [.int (opNeeds (nOf A.1.1) A.1.1 v1 2)]) (TBof tbs_72 _ rfl) rfl (lnkof mo_72 ln_7_24) rfl na_56 ltc_0 (sh_0.trans (by rw [mo_56])) (Nat.le_of_ble_eq_true rfl) (CN_count hw hI) (fun x12 M12 h12 D12 ⟨e12, hI⟩ => ?_)
        subst e12
        refine ev_iand (pc1 := 101) (TBof tbs_72 _ rfl) rfl ?_
        refine ev_if (pc1 := 104) (t := 108) (TBof tbs_72 _ rfl) (by decide) rfl (fun c13 => ?_) (fun c13 => ?_)
        · replace H := H.1 c13
          refine ev_iconst (pc1 := 109) (x := 0) (by decide) (TBof tbs_72 _ rfl) rfl ?_
          exact ev_le [3, 4, 2, 1, 0] rfl rfl (H _ _ _ hI)
        · replace H := H.2 c13
          refine ev_iconst (pc1 := 105) (x := 1) (by decide) (TBof tbs_72 _ rfl) rfl ?_
          refine ev_goto (pc1 := 109) (TBof tbs_72 _ rfl) (by decide) ?_
          exact ev_le [3, 4, 2, 1, 0] rfl rfl (H _ _ _ hI)
  · replace H := H.2 c2
    refine ev_iload_n (pc1 := 12) rfl (TBof tbs_72 _ rfl) rfl ?_
    refine ev_bipush (pc1 := 14) (x := (-4)) (by decide) (TBof tbs_72 _ rfl) rfl ?_
    refine ev_icmp (pc1 := 17) (t := 42) (TBof tbs_72 _ rfl) (by decide) rfl (fun c14 => ?_) (fun c14 => ?_)
    · replace H := H.1 c14
      refine ev_iconst (pc1 := 43) (x := 0) (by decide) (TBof tbs_72 _ rfl) rfl ?_
      exact ev_ireturn (TBof tbs_72 _ rfl) (retI_z rt_72 (Or.inl rfl)) ⟨_, rfl, _, H, hI⟩
    · replace H := H.2 c14
      refine ev_aload_n (pc1 := 18) rfl rfl (TBof tbs_72 _ rfl) rfl ?_
      refine ev_iload_n (pc1 := 19) rfl (TBof tbs_72 _ rfl) rfl ?_
      refine ev_iconst (pc1 := 20) (x := 1) (by decide) (TBof tbs_72 _ rfl) rfl ?_
      refine ev_callvI (pc1 := 23) (as := [.int v1, .int 1]) (r := []) (TBof tbs_72 _ rfl) rfl (lnkof mo_72 ln_7_9) rfl na_52 ltc_0 (sh_0.trans (by rw [mo_52])) (Nat.le_of_ble_eq_true rfl) (CN_needs hw hI) (fun x15 M15 h15 D15 ⟨e15, hI⟩ => ?_)
      subst e15
      refine ev_bipush (pc1 := 25) (x := (-4)) (by decide) (TBof tbs_72 _ rfl) rfl ?_
      refine ev_icmp (pc1 := 28) (t := 42) (TBof tbs_72 _ rfl) (by decide) rfl (fun c16 => ?_) (fun c16 => ?_)
      · replace H := H.1 c16
        refine ev_iconst (pc1 := 43) (x := 0) (by decide) (TBof tbs_72 _ rfl) rfl ?_
        exact ev_ireturn (TBof tbs_72 _ rfl) (retI_z rt_72 (Or.inl rfl)) ⟨_, rfl, _, H, hI⟩
      · replace H := H.2 c16
        refine ev_aload_n (pc1 := 29) rfl rfl (TBof tbs_72 _ rfl) rfl ?_
        refine ev_iload_n (pc1 := 30) rfl (TBof tbs_72 _ rfl) rfl ?_
        refine ev_callvI (pc1 := 33) (as := [.int v1]) (r := []) (TBof tbs_72 _ rfl) rfl (lnkof mo_72 ln_7_15) rfl na_53 ltc_0 (sh_0.trans (by rw [mo_53])) (Nat.le_of_ble_eq_true rfl) (CN_hint hw hI) (fun x17 M17 h17 D17 ⟨e17, hI⟩ => ?_)
        subst e17
        refine ev_bipush (pc1 := 35) (x := (-4)) (by decide) (TBof tbs_72 _ rfl) rfl ?_
        refine ev_icmp (pc1 := 38) (t := 42) (TBof tbs_72 _ rfl) (by decide) rfl (fun c18 => ?_) (fun c18 => ?_)
        · replace H := H.1 c18
          refine ev_iconst (pc1 := 43) (x := 0) (by decide) (TBof tbs_72 _ rfl) rfl ?_
          exact ev_ireturn (TBof tbs_72 _ rfl) (retI_z rt_72 (Or.inl rfl)) ⟨_, rfl, _, H, hI⟩
        · replace H := H.2 c18
          refine ev_iconst (pc1 := 39) (x := 1) (by decide) (TBof tbs_72 _ rfl) rfl ?_
          refine ev_goto (pc1 := 43) (TBof tbs_72 _ rfl) (by decide) ?_
          exact ev_ireturn (TBof tbs_72 _ rfl) (retI_z rt_72 (Or.inr rfl)) ⟨_, rfl, _, H, hI⟩
set_option maxRecDepth 100000 in
theorem R_L_isNeeded_109 {scr : Option (Nat × (Nat → Int32))} {e : Nat} {c : Nat} {A : Ab} {v1 v2 v3 v4 s0 : Int32} {Q : Int32 → Ab → Prop} (hc : c ≤ 400) (hw : wfA c A) (H : ((s0 = 0) → (EA scr (e + 8) nL_isNeeded 160 [(0, .ref 0), (1, .int v1), (2, .int v2), (3, .int v3), (4, .int v4), (5, .int 0), (6, .int 0)] [] A Q)) ∧ (¬ (s0 = 0) → ((((opNeeds (nOf A.1.1) A.1.1 v1 3) = 0) → (EA scr (e + 8) nL_isNeeded 160 [(0, .ref 0), (1, .int v1), (2, .int v2), (3, .int v3), (4, .int v4), (5, .int 1), (6, .int 0)] [] A Q)) ∧ (¬ ((opNeeds (nOf A.1.1) A.1.1 v1 3) = 0) → ((((((opCount (nOf A.1.1) A 3) >>> (10 &&& 31)) &&& 1) = 1) → (EA scr (e + 8) nL_isNeeded 160 [(0, .ref 0), (1, .int v1), (2, .int v2), (3, .int v3), (4, .int v4), (5, .int 1), (6, .int 0)] [] A Q)) ∧ (¬ ((((opCount (nOf A.1.1) A 3) >>> (10 &&& 31)) &&& 1) = 1) → (((¬ (((v4 >>> (10 &&& 31)) &&& 1) = 1)) → (EA scr (e + 8) nL_isNeeded 160 [(0, .ref 0), (1, .int v1), (2, .int v2), (3, .int v3), (4, .int v4), (5, .int 0), (6, .int 0)] [] A Q)) ∧ (¬ (¬ (((v4 >>> (10 &&& 31)) &&& 1) = 1)) → (EA scr (e + 8) nL_isNeeded 160 [(0, .ref 0), (1, .int v1), (2, .int v2), (3, .int v3), (4, .int v4), (5, .int 1), (6, .int 0)] [] A Q))))))))) : EA scr (e + 8) nL_isNeeded 109 [(0, .ref 0), (1, .int v1), (2, .int v2), (3, .int v3), (4, .int v4)] [.int s0] A Q := by
  intro M h D hI
  refine ev_istore (pc1 := 111) (L1 := [(5, .int s0), (0, .ref 0), (1, .int v1), (2, .int v2), (3, .int v3), (4, .int v4)]) (by rw [ml_72]; decide) rfl (TBof tbs_72 _ rfl) rfl ?_
  refine ev_iload (pc1 := 113) rfl (TBof tbs_72 _ rfl) rfl ?_
  refine ev_if (pc1 := 116) (t := 154) (TBof tbs_72 _ rfl) (by decide) rfl (fun c1 => ?_) (fun c1 => ?_)
  · replace H := H.1 c1
    refine ev_iconst (pc1 := 155) (x := 0) (by decide) (TBof tbs_72 _ rfl) rfl ?_
    refine ev_istore (pc1 := 157) (L1 := [(5, .int 0), (0, .ref 0), (1, .int v1), (2, .int v2), (3, .int v3), (4, .int v4)]) (by rw [ml_72]; decide) rfl (TBof tbs_72 _ rfl) rfl ?_
    refine ev_iconst (pc1 := 158) (x := 0) (by decide) (TBof tbs_72 _ rfl) rfl ?_
    refine ev_istore (pc1 := 160) (L1 := [(6, .int 0), (5, .int 0), (0, .ref 0), (1, .int v1), (2, .int v2), (3, .int v3), (4, .int v4)]) (by rw [ml_72]; decide) rfl (TBof tbs_72 _ rfl) rfl ?_
    exact ev_le [2, 3, 4, 5, 6, 1, 0] rfl rfl (H _ _ _ hI)
  · replace H := H.2 c1
    refine ev_aload_n (pc1 := 117) rfl rfl (TBof tbs_72 _ rfl) rfl ?_
    refine ev_iload_n (pc1 := 118) rfl (TBof tbs_72 _ rfl) rfl ?_
    refine ev_iconst (pc1 := 119) (x := 3) (by decide) (TBof tbs_72 _ rfl) rfl ?_
    refine ev_callvI (pc1 := 122) (as := [.int v1, .int 3]) (r := []) (TBof tbs_72 _ rfl) rfl (lnkof mo_72 ln_7_9) rfl na_52 ltc_0 (sh_0.trans (by rw [mo_52])) (Nat.le_of_ble_eq_true rfl) (CN_needs hw hI) (fun x2 M2 h2 D2 ⟨e2, hI⟩ => ?_)
    subst e2
    refine ev_if (pc1 := 125) (t := 150) (TBof tbs_72 _ rfl) (by decide) rfl (fun c3 => ?_) (fun c3 => ?_)
    · replace H := H.1 c3
      refine ev_iconst (pc1 := 151) (x := 1) (by decide) (TBof tbs_72 _ rfl) rfl ?_
      refine ev_goto (pc1 := 155) (TBof tbs_72 _ rfl) (by decide) ?_
      refine ev_istore (pc1 := 157) (L1 := [(5, .int 1), (0, .ref 0), (1, .int v1), (2, .int v2), (3, .int v3), (4, .int v4)]) (by rw [ml_72]; decide) rfl (TBof tbs_72 _ rfl) rfl ?_
      refine ev_iconst (pc1 := 158) (x := 0) (by decide) (TBof tbs_72 _ rfl) rfl ?_
      refine ev_istore (pc1 := 160) (L1 := [(6, .int 0), (5, .int 1), (0, .ref 0), (1, .int v1), (2, .int v2), (3, .int v3), (4, .int v4)]) (by rw [ml_72]; decide) rfl (TBof tbs_72 _ rfl) rfl ?_
      exact ev_le [2, 3, 4, 5, 6, 1, 0] rfl rfl (H _ _ _ hI)
    · replace H := H.2 c3
      refine ev_aload_n (pc1 := 126) rfl rfl (TBof tbs_72 _ rfl) rfl ?_
      refine ev_iconst (pc1 := 127) (x := 3) (by decide) (TBof tbs_72 _ rfl) rfl ?_
      refine ev_callvI (pc1 := 130) (as := [.int 3]) (r := []) (TBof tbs_72 _ rfl) rfl (lnkof mo_72 ln_7_24) rfl na_56 ltc_0 (sh_0.trans (by rw [mo_56])) (Nat.le_of_ble_eq_true rfl) (CN_count hw hI) (fun x4 M4 h4 D4 ⟨e4, hI⟩ => ?_)
      subst e4
      refine ev_bipush (pc1 := 132) (x := 10) (by decide) (TBof tbs_72 _ rfl) rfl ?_
      refine ev_ishr (pc1 := 133) (TBof tbs_72 _ rfl) rfl ?_
      refine ev_iconst (pc1 := 134) (x := 1) (by decide) (TBof tbs_72 _ rfl) rfl ?_
      refine ev_iand (pc1 := 135) (TBof tbs_72 _ rfl) rfl ?_
      refine ev_iconst (pc1 := 136) (x := 1) (by decide) (TBof tbs_72 _ rfl) rfl ?_
      refine ev_icmp (pc1 := 139) (t := 150) (TBof tbs_72 _ rfl) (by decide) rfl (fun c5 => ?_) (fun c5 => ?_)
      · replace H := H.1 c5
        refine ev_iconst (pc1 := 151) (x := 1) (by decide) (TBof tbs_72 _ rfl) rfl ?_
        refine ev_goto (pc1 := 155) (TBof tbs_72 _ rfl) (by decide) ?_
        refine ev_istore (pc1 := 157) (L1 := [(5, .int 1), (0, .ref 0), (1, .int v1), (2, .int v2), (3, .int v3), (4, .int v4)]) (by rw [ml_72]; decide) rfl (TBof tbs_72 _ rfl) rfl ?_
        refine ev_iconst (pc1 := 158) (x := 0) (by decide) (TBof tbs_72 _ rfl) rfl ?_
        refine ev_istore (pc1 := 160) (L1 := [(6, .int 0), (5, .int 1), (0, .ref 0), (1, .int v1), (2, .int v2), (3, .int v3), (4, .int v4)]) (by rw [ml_72]; decide) rfl (TBof tbs_72 _ rfl) rfl ?_
        exact ev_le [2, 3, 4, 5, 6, 1, 0] rfl rfl (H _ _ _ hI)
      · replace H := H.2 c5
        refine ev_iload (pc1 := 141) rfl (TBof tbs_72 _ rfl) rfl ?_
        refine ev_bipush (pc1 := 143) (x := 10) (by decide) (TBof tbs_72 _ rfl) rfl ?_
        refine ev_ishr (pc1 := 144) (TBof tbs_72 _ rfl) rfl ?_
        refine ev_iconst (pc1 := 145) (x := 1) (by decide) (TBof tbs_72 _ rfl) rfl ?_
        refine ev_iand (pc1 := 146) (TBof tbs_72 _ rfl) rfl ?_
        refine ev_iconst (pc1 := 147) (x := 1) (by decide) (TBof tbs_72 _ rfl) rfl ?_
        refine ev_icmp (pc1 := 150) (t := 154) (TBof tbs_72 _ rfl) (by decide) rfl (fun c6 => ?_) (fun c6 => ?_)
        · replace H := H.1 c6
          refine ev_iconst (pc1 := 155) (x := 0) (by decide) (TBof tbs_72 _ rfl) rfl ?_
          refine ev_istore (pc1 := 157) (L1 := [(5, .int 0), (0, .ref 0), (1, .int v1), (2, .int v2), (3, .int v3), (4, .int v4)]) (by rw [ml_72]; decide) rfl (TBof tbs_72 _ rfl) rfl ?_
          refine ev_iconst (pc1 := 158) (x := 0) (by decide) (TBof tbs_72 _ rfl) rfl ?_
          refine ev_istore (pc1 := 160) (L1 := [(6, .int 0), (5, .int 0), (0, .ref 0), (1, .int v1), (2, .int v2), (3, .int v3), (4, .int v4)]) (by rw [ml_72]; decide) rfl (TBof tbs_72 _ rfl) rfl ?_
          exact ev_le [2, 3, 4, 5, 6, 1, 0] rfl rfl (H _ _ _ hI)
        · replace H := H.2 c6
          refine ev_iconst (pc1 := 151) (x := 1) (by decide) (TBof tbs_72 _ rfl) rfl ?_
          refine ev_goto (pc1 := 155) (TBof tbs_72 _ rfl) (by decide) ?_
          refine ev_istore (pc1 := 157) (L1 := [(5, .int 1), (0, .ref 0), (1, .int v1), (2, .int v2), (3, .int v3), (4, .int v4)]) (by rw [ml_72]; decide) rfl (TBof tbs_72 _ rfl) rfl ?_
          refine ev_iconst (pc1 := 158) (x := 0) (by decide) (TBof tbs_72 _ rfl) rfl ?_
          refine ev_istore (pc1 := 160) (L1 := [(6, .int 0), (5, .int 1), (0, .ref 0), (1, .int v1), (2, .int v2), (3, .int v3), (4, .int v4)]) (by rw [ml_72]; decide) rfl (TBof tbs_72 _ rfl) rfl ?_
          exact ev_le [2, 3, 4, 5, 6, 1, 0] rfl rfl (H _ _ _ hI)
set_option maxRecDepth 100000 in
theorem R_L_isNeeded_160 {scr : Option (Nat × (Nat → Int32))} {e : Nat} {c : Nat} {A : Ab} {v1 v2 v3 v4 v5 v6 : Int32} {Q : Int32 → Ab → Prop} (hc : c ≤ 400) (hw : wfA c A) (H : (((opCount (nOf A.1.1) A 0) ≤ v6) → (EA scr (e + 8) nL_isNeeded 382 [(0, .ref 0), (1, .int v1), (2, .int v2), (3, .int v3), (4, .int v4), (5, .int v5), (6, .int v6)] [] A Q)) ∧ (¬ ((opCount (nOf A.1.1) A 0) ≤ v6) → (((v5 = 0) → (EA scr (e + 8) nL_isNeeded 382 [(0, .ref 0), (1, .int v1), (2, .int v2), (3, .int v3), (4, .int v4), (5, .int v5), (6, .int v6)] [] A Q)) ∧ (¬ (v5 = 0) → (((((v3 >>> (v6 &&& 31)) &&& 1) = 0) → (EA scr (e + 8) nL_isNeeded 200 [(0, .ref 0), (1, .int v1), (2, .int v2), (3, .int v3), (4, .int v4), (5, .int v5), (6, .int v6)] [.int 1] A Q)) ∧ (¬ (((v3 >>> (v6 &&& 31)) &&& 1) = 0) → (((¬ ((opDrawer A.1.1 v6 6) = 0)) → (EA scr (e + 8) nL_isNeeded 200 [(0, .ref 0), (1, .int v1), (2, .int v2), (3, .int v3), (4, .int v4), (5, .int v5), (6, .int v6)] [.int 0] A Q)) ∧ (¬ (¬ ((opDrawer A.1.1 v6 6) = 0)) → (EA scr (e + 8) nL_isNeeded 200 [(0, .ref 0), (1, .int v1), (2, .int v2), (3, .int v3), (4, .int v4), (5, .int v5), (6, .int v6)] [.int 1] A Q))))))))) : EA scr (e + 8) nL_isNeeded 160 [(0, .ref 0), (1, .int v1), (2, .int v2), (3, .int v3), (4, .int v4), (5, .int v5), (6, .int v6)] [] A Q := by
  intro M h D hI
  refine ev_iload (pc1 := 162) rfl (TBof tbs_72 _ rfl) rfl ?_
  refine ev_aload_n (pc1 := 163) rfl rfl (TBof tbs_72 _ rfl) rfl ?_
  refine ev_iconst (pc1 := 164) (x := 0) (by decide) (TBof tbs_72 _ rfl) rfl ?_
  refine ev_callvI (pc1 := 167) (as := [.int 0]) (r := [.int v6]) (TBof tbs_72 _ rfl) rfl (lnkof mo_72 ln_7_24) rfl na_56 ltc_0 (sh_0.trans (by rw [mo_56])) (Nat.le_of_ble_eq_true rfl) (CN_count hw hI) (fun x1 M1 h1 D1 ⟨e1, hI⟩ => ?_)
  subst e1
  refine ev_icmp (pc1 := 170) (t := 382) (TBof tbs_72 _ rfl) (by decide) rfl (fun c2 => ?_) (fun c2 => ?_)
  · replace H := H.1 c2
    exact ev_le [0, 1, 2, 3, 4, 5, 6] rfl rfl (H _ _ _ hI)
  · replace H := H.2 c2
    refine ev_iload (pc1 := 172) rfl (TBof tbs_72 _ rfl) rfl ?_
    refine ev_if (pc1 := 175) (t := 382) (TBof tbs_72 _ rfl) (by decide) rfl (fun c3 => ?_) (fun c3 => ?_)
    · replace H := H.1 c3
      exact ev_le [0, 1, 2, 3, 4, 5, 6] rfl rfl (H _ _ _ hI)
    · replace H := H.2 c3
      refine ev_iload_n (pc1 := 176) rfl (TBof tbs_72 _ rfl) rfl ?_
      refine ev_iload (pc1 := 178) rfl (TBof tbs_72 _ rfl) rfl ?_
      refine ev_ishr (pc1 := 179) (TBof tbs_72 _ rfl) rfl ?_
      refine ev_iconst (pc1 := 180) (x := 1) (by decide) (TBof tbs_72 _ rfl) rfl ?_
      refine ev_iand (pc1 := 181) (TBof tbs_72 _ rfl) rfl ?_
      refine ev_if (pc1 := 184) (t := 195) (TBof tbs_72 _ rfl) (by decide) rfl (fun c4 => ?_) (fun c4 => ?_)
      · replace H := H.1 c4
        refine ev_iconst (pc1 := 196) (x := 1) (by decide) (TBof tbs_72 _ rfl) rfl ?_
        refine ev_goto (pc1 := 200) (TBof tbs_72 _ rfl) (by decide) ?_
        exact ev_le [0, 1, 2, 3, 4, 5, 6] rfl rfl (H _ _ _ hI)
      · replace H := H.2 c4
        refine ev_aload_n (pc1 := 185) rfl rfl (TBof tbs_72 _ rfl) rfl ?_
        refine ev_iload (pc1 := 187) rfl (TBof tbs_72 _ rfl) rfl ?_
        refine ev_bipush (pc1 := 189) (x := 6) (by decide) (TBof tbs_72 _ rfl) rfl ?_
        refine ev_callvI (pc1 := 192) (as := [.int v6, .int 6]) (r := []) (TBof tbs_72 _ rfl) rfl (lnkof mo_72 ln_7_27) rfl na_50 ltc_0 (sh_0.trans (by rw [mo_50])) (Nat.le_of_ble_eq_true rfl) (CN_drawer hw hI) (fun x5 M5 h5 D5 ⟨e5, hI⟩ => ?_)
        subst e5
        refine ev_if (pc1 := 195) (t := 199) (TBof tbs_72 _ rfl) (by decide) rfl (fun c6 => ?_) (fun c6 => ?_)
        · replace H := H.1 c6
          refine ev_iconst (pc1 := 200) (x := 0) (by decide) (TBof tbs_72 _ rfl) rfl ?_
          exact ev_le [0, 1, 2, 3, 4, 5, 6] rfl rfl (H _ _ _ hI)
        · replace H := H.2 c6
          refine ev_iconst (pc1 := 196) (x := 1) (by decide) (TBof tbs_72 _ rfl) rfl ?_
          refine ev_goto (pc1 := 200) (TBof tbs_72 _ rfl) (by decide) ?_
          exact ev_le [0, 1, 2, 3, 4, 5, 6] rfl rfl (H _ _ _ hI)
set_option maxRecDepth 100000 in
theorem R_L_isNeeded_200 {scr : Option (Nat × (Nat → Int32))} {e : Nat} {c : Nat} {A : Ab} {v1 v2 v3 v4 v5 v6 s0 : Int32} {Q : Int32 → Ab → Prop} (hc : c ≤ 400) (hw : wfA c A) (H : ((s0 = 0) → (EA scr (e + 8) nL_isNeeded 257 [(0, .ref 0), (1, .int v1), (2, .int v2), (3, .int v3), (4, .int v4), (5, .int s0), (6, .int v6), (7, .int (opDrawer A.1.1 v6 0))] [.int 0] A Q)) ∧ (¬ (s0 = 0) → (((((v3 >>> (v6 &&& 31)) &&& 1) = 0) → (EA scr (e + 8) nL_isNeeded 257 [(0, .ref 0), (1, .int v1), (2, .int v2), (3, .int v3), (4, .int v4), (5, .int s0), (6, .int v6), (7, .int (opDrawer A.1.1 v6 0))] [.int 1] A Q)) ∧ (¬ (((v3 >>> (v6 &&& 31)) &&& 1) = 0) → ((((opDrawer A.1.1 v6 0) < 0) → (EA scr (e + 8) nL_isNeeded 257 [(0, .ref 0), (1, .int v1), (2, .int v2), (3, .int v3), (4, .int v4), (5, .int s0), (6, .int v6), (7, .int (opDrawer A.1.1 v6 0))] [.int 1] A Q)) ∧ (¬ ((opDrawer A.1.1 v6 0) < 0) → ((((opDrawer A.1.1 (opDrawer A.1.1 v6 0) 6) = 1) → (EA scr (e + 8) nL_isNeeded 257 [(0, .ref 0), (1, .int v1), (2, .int v2), (3, .int v3), (4, .int v4), (5, .int s0), (6, .int v6), (7, .int (opDrawer A.1.1 v6 0))] [.int 1] A Q)) ∧ (¬ ((opDrawer A.1.1 (opDrawer A.1.1 v6 0) 6) = 1) → (((¬ (((v3 >>> ((opDrawer A.1.1 v6 0) &&& 31)) &&& 1) = 1)) → (EA scr (e + 8) nL_isNeeded 257 [(0, .ref 0), (1, .int v1), (2, .int v2), (3, .int v3), (4, .int v4), (5, .int s0), (6, .int v6), (7, .int (opDrawer A.1.1 v6 0))] [.int 0] A Q)) ∧ (¬ (¬ (((v3 >>> ((opDrawer A.1.1 v6 0) &&& 31)) &&& 1) = 1)) → (EA scr (e + 8) nL_isNeeded 257 [(0, .ref 0), (1, .int v1), (2, .int v2), (3, .int v3), (4, .int v4), (5, .int s0), (6, .int v6), (7, .int (opDrawer A.1.1 v6 0))] [.int 1] A Q))))))))))) : EA scr (e + 8) nL_isNeeded 200 [(0, .ref 0), (1, .int v1), (2, .int v2), (3, .int v3), (4, .int v4), (5, .int v5), (6, .int v6)] [.int s0] A Q := by
  intro M h D hI
  refine ev_istore (pc1 := 202) (L1 := [(5, .int s0), (0, .ref 0), (1, .int v1), (2, .int v2), (3, .int v3), (4, .int v4), (6, .int v6)]) (by rw [ml_72]; decide) rfl (TBof tbs_72 _ rfl) rfl ?_
  refine ev_aload_n (pc1 := 203) rfl rfl (TBof tbs_72 _ rfl) rfl ?_
  refine ev_iload (pc1 := 205) rfl (TBof tbs_72 _ rfl) rfl ?_
  refine ev_iconst (pc1 := 206) (x := 0) (by decide) (TBof tbs_72 _ rfl) rfl ?_
  refine ev_callvI (pc1 := 209) (as := [.int v6, .int 0]) (r := []) (TBof tbs_72 _ rfl) rfl (lnkof mo_72 ln_7_27) rfl na_50 ltc_0 (sh_0.trans (by rw [mo_50])) (Nat.le_of_ble_eq_true rfl) (CN_drawer hw hI) (fun x1 M1 h1 D1 ⟨e1, hI⟩ => ?_)
  subst e1
  refine ev_istore (pc1 := 211) (L1 := [(7, .int (opDrawer A.1.1 v6 0)), (5, .int s0), (0, .ref 0), (1, .int v1), (2, .int v2), (3, .int v3), (4, .int v4), (6, .int v6)]) (by rw [ml_72]; decide) rfl (TBof tbs_72 _ rfl) rfl ?_
  refine ev_iload (pc1 := 213) rfl (TBof tbs_72 _ rfl) rfl ?_
  refine ev_if (pc1 := 216) (t := 256) (TBof tbs_72 _ rfl) (by decide) rfl (fun c2 => ?_) (fun c2 => ?_)
  · replace H := H.1 c2
    refine ev_iconst (pc1 := 257) (x := 0) (by decide) (TBof tbs_72 _ rfl) rfl ?_
    exact ev_le [2, 3, 4, 5, 6, 1, 7, 0] rfl rfl (H _ _ _ hI)
  · replace H := H.2 c2
    refine ev_iload_n (pc1 := 217) rfl (TBof tbs_72 _ rfl) rfl ?_
    refine ev_iload (pc1 := 219) rfl (TBof tbs_72 _ rfl) rfl ?_
    refine ev_ishr (pc1 := 220) (TBof tbs_72 _ rfl) rfl ?_
    refine ev_iconst (pc1 := 221) (x := 1) (by decide) (TBof tbs_72 _ rfl) rfl ?_
    refine ev_iand (pc1 := 222) (TBof tbs_72 _ rfl) rfl ?_
    refine ev_if (pc1 := 225) (t := 252) (TBof tbs_72 _ rfl) (by decide) rfl (fun c3 => ?_) (fun c3 => ?_)
    · replace H := H.1 c3
      refine ev_iconst (pc1 := 253) (x := 1) (by decide) (TBof tbs_72 _ rfl) rfl ?_
      refine ev_goto (pc1 := 257) (TBof tbs_72 _ rfl) (by decide) ?_
      exact ev_le [2, 3, 4, 5, 6, 1, 7, 0] rfl rfl (H _ _ _ hI)
    · replace H := H.2 c3
      refine ev_iload (pc1 := 227) rfl (TBof tbs_72 _ rfl) rfl ?_
      refine ev_if (pc1 := 230) (t := 252) (TBof tbs_72 _ rfl) (by decide) rfl (fun c4 => ?_) (fun c4 => ?_)
      · replace H := H.1 c4
        refine ev_iconst (pc1 := 253) (x := 1) (by decide) (TBof tbs_72 _ rfl) rfl ?_
        refine ev_goto (pc1 := 257) (TBof tbs_72 _ rfl) (by decide) ?_
        exact ev_le [2, 3, 4, 5, 6, 1, 7, 0] rfl rfl (H _ _ _ hI)
      · replace H := H.2 c4
        refine ev_aload_n (pc1 := 231) rfl rfl (TBof tbs_72 _ rfl) rfl ?_
        refine ev_iload (pc1 := 233) rfl (TBof tbs_72 _ rfl) rfl ?_
        refine ev_bipush (pc1 := 235) (x := 6) (by decide) (TBof tbs_72 _ rfl) rfl ?_
        refine ev_callvI (pc1 := 238) (as := [.int (opDrawer A.1.1 v6 0), .int 6]) (r := []) (TBof tbs_72 _ rfl) rfl (lnkof mo_72 ln_7_27) rfl na_50 ltc_0 (sh_0.trans (by rw [mo_50])) (Nat.le_of_ble_eq_true rfl) (CN_drawer hw hI) (fun x5 M5 h5 D5 ⟨e5, hI⟩ => ?_)
        subst e5
        refine ev_iconst (pc1 := 239) (x := 1) (by decide) (TBof tbs_72 _ rfl) rfl ?_
        refine ev_icmp (pc1 := 242) (t := 252) (TBof tbs_72 _ rfl) (by decide) rfl (fun c6 => ?_) (fun c6 => ?_)
        · replace H := H.1 c6
          refine ev_iconst (pc1 := 253) (x := 1) (by decide) (TBof tbs_72 _ rfl) rfl ?_
          refine ev_goto (pc1 := 257) (TBof tbs_72 _ rfl) (by decide) ?_
          exact ev_le [2, 3, 4, 5, 6, 1, 7, 0] rfl rfl (H _ _ _ hI)
        · replace H := H.2 c6
          refine ev_iload_n (pc1 := 243) rfl (TBof tbs_72 _ rfl) rfl ?_
          refine ev_iload (pc1 := 245) rfl (TBof tbs_72 _ rfl) rfl ?_
          refine ev_ishr (pc1 := 246) (TBof tbs_72 _ rfl) rfl ?_
          refine ev_iconst (pc1 := 247) (x := 1) (by decide) (TBof tbs_72 _ rfl) rfl ?_
          refine ev_iand (pc1 := 248) (TBof tbs_72 _ rfl) rfl ?_
          refine ev_iconst (pc1 := 249) (x := 1) (by decide) (TBof tbs_72 _ rfl) rfl ?_
          refine ev_icmp (pc1 := 252) (t := 256) (TBof tbs_72 _ rfl) (by decide) rfl (fun c7 => ?_) (fun c7 => ?_)
          · replace H := H.1 c7
            refine ev_iconst (pc1 := 257) (x := 0) (by decide) (TBof tbs_72 _ rfl) rfl ?_
            exact ev_le [2, 3, 4, 5, 6, 1, 7, 0] rfl rfl (H _ _ _ hI)
          · replace H := H.2 c7
            refine ev_iconst (pc1 := 253) (x := 1) (by decide) (TBof tbs_72 _ rfl) rfl ?_
            refine ev_goto (pc1 := 257) (TBof tbs_72 _ rfl) (by decide) ?_
            exact ev_le [2, 3, 4, 5, 6, 1, 7, 0] rfl rfl (H _ _ _ hI)
set_option maxRecDepth 100000 in
theorem R_L_isNeeded_257 {scr : Option (Nat × (Nat → Int32))} {e : Nat} {c : Nat} {A : Ab} {v1 v2 v3 v4 v5 v6 v7 s0 : Int32} {Q : Int32 → Ab → Prop} (hc : c ≤ 400) (hw : wfA c A) (H : ((s0 = 0) → (EA scr (e + 8) nL_isNeeded 320 [(0, .ref 0), (1, .int v1), (2, .int v2), (3, .int v3), (4, .int v4), (5, .int s0), (6, .int v6), (7, .int v7), (8, .int (opDrawer A.1.1 v6 2))] [.int 0] A Q)) ∧ (¬ (s0 = 0) → (((((v3 >>> (v6 &&& 31)) &&& 1) = 0) → (EA scr (e + 8) nL_isNeeded 320 [(0, .ref 0), (1, .int v1), (2, .int v2), (3, .int v3), (4, .int v4), (5, .int s0), (6, .int v6), (7, .int v7), (8, .int (opDrawer A.1.1 v6 2))] [.int 1] A Q)) ∧ (¬ (((v3 >>> (v6 &&& 31)) &&& 1) = 0) → (((¬ ((opDrawer A.1.1 v6 1) = 1)) → (EA scr (e + 8) nL_isNeeded 320 [(0, .ref 0), (1, .int v1), (2, .int v2), (3, .int v3), (4, .int v4), (5, .int s0), (6, .int v6), (7, .int v7), (8, .int (opDrawer A.1.1 v6 2))] [.int 1] A Q)) ∧ (¬ (¬ ((opDrawer A.1.1 v6 1) = 1)) → ((((opThing A.1.1 (opDrawer A.1.1 v6 2) 2) = 1) → (EA scr (e + 8) nL_isNeeded 320 [(0, .ref 0), (1, .int v1), (2, .int v2), (3, .int v3), (4, .int v4), (5, .int s0), (6, .int v6), (7, .int v7), (8, .int (opDrawer A.1.1 v6 2))] [.int 1] A Q)) ∧ (¬ ((opThing A.1.1 (opDrawer A.1.1 v6 2) 2) = 1) → (((¬ (((v4 >>> ((opDrawer A.1.1 v6 2) &&& 31)) &&& 1) = 1)) → (EA scr (e + 8) nL_isNeeded 320 [(0, .ref 0), (1, .int v1), (2, .int v2), (3, .int v3), (4, .int v4), (5, .int s0), (6, .int v6), (7, .int v7), (8, .int (opDrawer A.1.1 v6 2))] [.int 0] A Q)) ∧ (¬ (¬ (((v4 >>> ((opDrawer A.1.1 v6 2) &&& 31)) &&& 1) = 1)) → (EA scr (e + 8) nL_isNeeded 320 [(0, .ref 0), (1, .int v1), (2, .int v2), (3, .int v3), (4, .int v4), (5, .int s0), (6, .int v6), (7, .int v7), (8, .int (opDrawer A.1.1 v6 2))] [.int 1] A Q))))))))))) : EA scr (e + 8) nL_isNeeded 257 [(0, .ref 0), (1, .int v1), (2, .int v2), (3, .int v3), (4, .int v4), (5, .int v5), (6, .int v6), (7, .int v7)] [.int s0] A Q := by
  intro M h D hI
  refine ev_istore (pc1 := 259) (L1 := [(5, .int s0), (0, .ref 0), (1, .int v1), (2, .int v2), (3, .int v3), (4, .int v4), (6, .int v6), (7, .int v7)]) (by rw [ml_72]; decide) rfl (TBof tbs_72 _ rfl) rfl ?_
  refine ev_aload_n (pc1 := 260) rfl rfl (TBof tbs_72 _ rfl) rfl ?_
  refine ev_iload (pc1 := 262) rfl (TBof tbs_72 _ rfl) rfl ?_
  refine ev_iconst (pc1 := 263) (x := 2) (by decide) (TBof tbs_72 _ rfl) rfl ?_
  refine ev_callvI (pc1 := 266) (as := [.int v6, .int 2]) (r := []) (TBof tbs_72 _ rfl) rfl (lnkof mo_72 ln_7_27) rfl na_50 ltc_0 (sh_0.trans (by rw [mo_50])) (Nat.le_of_ble_eq_true rfl) (CN_drawer hw hI) (fun x1 M1 h1 D1 ⟨e1, hI⟩ => ?_)
  subst e1
  refine ev_istore (pc1 := 268) (L1 := [(8, .int (opDrawer A.1.1 v6 2)), (5, .int s0), (0, .ref 0), (1, .int v1), (2, .int v2), (3, .int v3), (4, .int v4), (6, .int v6), (7, .int v7)]) (by rw [ml_72]; decide) rfl (TBof tbs_72 _ rfl) rfl ?_
  refine ev_iload (pc1 := 270) rfl (TBof tbs_72 _ rfl) rfl ?_
  refine ev_if (pc1 := 273) (t := 319) (TBof tbs_72 _ rfl) (by decide) rfl (fun c2 => ?_) (fun c2 => ?_)
  · replace H := H.1 c2
    refine ev_iconst (pc1 := 320) (x := 0) (by decide) (TBof tbs_72 _ rfl) rfl ?_
    exact ev_le [2, 3, 4, 5, 6, 1, 7, 8, 0] rfl rfl (H _ _ _ hI)
  · replace H := H.2 c2
    refine ev_iload_n (pc1 := 274) rfl (TBof tbs_72 _ rfl) rfl ?_
    refine ev_iload (pc1 := 276) rfl (TBof tbs_72 _ rfl) rfl ?_
    refine ev_ishr (pc1 := 277) (TBof tbs_72 _ rfl) rfl ?_
    refine ev_iconst (pc1 := 278) (x := 1) (by decide) (TBof tbs_72 _ rfl) rfl ?_
    refine ev_iand (pc1 := 279) (TBof tbs_72 _ rfl) rfl ?_
    refine ev_if (pc1 := 282) (t := 315) (TBof tbs_72 _ rfl) (by decide) rfl (fun c3 => ?_) (fun c3 => ?_)
    · replace H := H.1 c3
      refine ev_iconst (pc1 := 316) (x := 1) (by decide) (TBof tbs_72 _ rfl) rfl ?_
      refine ev_goto (pc1 := 320) (TBof tbs_72 _ rfl) (by decide) ?_
      exact ev_le [2, 3, 4, 5, 6, 1, 7, 8, 0] rfl rfl (H _ _ _ hI)
    · replace H := H.2 c3
      refine ev_aload_n (pc1 := 283) rfl rfl (TBof tbs_72 _ rfl) rfl ?_
      refine ev_iload (pc1 := 285) rfl (TBof tbs_72 _ rfl) rfl ?_
      refine ev_iconst (pc1 := 286) (x := 1) (by decide) (TBof tbs_72 _ rfl) rfl ?_
      refine ev_callvI (pc1 := 289) (as := [.int v6, .int 1]) (r := []) (TBof tbs_72 _ rfl) rfl (lnkof mo_72 ln_7_27) rfl na_50 ltc_0 (sh_0.trans (by rw [mo_50])) (Nat.le_of_ble_eq_true rfl) (CN_drawer hw hI) (fun x4 M4 h4 D4 ⟨e4, hI⟩ => ?_)
      subst e4
      refine ev_iconst (pc1 := 290) (x := 1) (by decide) (TBof tbs_72 _ rfl) rfl ?_
      refine ev_icmp (pc1 := 293) (t := 315) (TBof tbs_72 _ rfl) (by decide) rfl (fun c5 => ?_) (fun c5 => ?_)
      · replace H := H.1 c5
        refine ev_iconst (pc1 := 316) (x := 1) (by decide) (TBof tbs_72 _ rfl) rfl ?_
        refine ev_goto (pc1 := 320) (TBof tbs_72 _ rfl) (by decide) ?_
        exact ev_le [2, 3, 4, 5, 6, 1, 7, 8, 0] rfl rfl (H _ _ _ hI)
      · replace H := H.2 c5
        refine ev_aload_n (pc1 := 294) rfl rfl (TBof tbs_72 _ rfl) rfl ?_
        refine ev_iload (pc1 := 296) rfl (TBof tbs_72 _ rfl) rfl ?_
        refine ev_iconst (pc1 := 297) (x := 2) (by decide) (TBof tbs_72 _ rfl) rfl ?_
        refine ev_callvI (pc1 := 300) (as := [.int (opDrawer A.1.1 v6 2), .int 2]) (r := []) (TBof tbs_72 _ rfl) rfl (lnkof mo_72 ln_7_30) rfl na_51 ltc_0 (sh_0.trans (by rw [mo_51])) (Nat.le_of_ble_eq_true rfl) (CN_thing hw hI) (fun x6 M6 h6 D6 ⟨e6, hI⟩ => ?_)
        subst e6
        refine ev_iconst (pc1 := 301) (x := 1) (by decide) (TBof tbs_72 _ rfl) rfl ?_
        refine ev_icmp (pc1 := 304) (t := 315) (TBof tbs_72 _ rfl) (by decide) rfl (fun c7 => ?_) (fun c7 => ?_)
        · replace H := H.1 c7
          refine ev_iconst (pc1 := 316) (x := 1) (by decide) (TBof tbs_72 _ rfl) rfl ?_
          refine ev_goto (pc1 := 320) (TBof tbs_72 _ rfl) (by decide) ?_
          exact ev_le [2, 3, 4, 5, 6, 1, 7, 8, 0] rfl rfl (H _ _ _ hI)
        · replace H := H.2 c7
          refine ev_iload (pc1 := 306) rfl (TBof tbs_72 _ rfl) rfl ?_
          refine ev_iload (pc1 := 308) rfl (TBof tbs_72 _ rfl) rfl ?_
          refine ev_ishr (pc1 := 309) (TBof tbs_72 _ rfl) rfl ?_
          refine ev_iconst (pc1 := 310) (x := 1) (by decide) (TBof tbs_72 _ rfl) rfl ?_
          refine ev_iand (pc1 := 311) (TBof tbs_72 _ rfl) rfl ?_
          refine ev_iconst (pc1 := 312) (x := 1) (by decide) (TBof tbs_72 _ rfl) rfl ?_
          refine ev_icmp (pc1 := 315) (t := 319) (TBof tbs_72 _ rfl) (by decide) rfl (fun c8 => ?_) (fun c8 => ?_)
          · replace H := H.1 c8
            refine ev_iconst (pc1 := 320) (x := 0) (by decide) (TBof tbs_72 _ rfl) rfl ?_
            exact ev_le [2, 3, 4, 5, 6, 1, 7, 8, 0] rfl rfl (H _ _ _ hI)
          · replace H := H.2 c8
            refine ev_iconst (pc1 := 316) (x := 1) (by decide) (TBof tbs_72 _ rfl) rfl ?_
            refine ev_goto (pc1 := 320) (TBof tbs_72 _ rfl) (by decide) ?_
            exact ev_le [2, 3, 4, 5, 6, 1, 7, 8, 0] rfl rfl (H _ _ _ hI)
set_option maxRecDepth 100000 in
theorem R_L_isNeeded_320 {scr : Option (Nat × (Nat → Int32))} {e : Nat} {c : Nat} {A : Ab} {v1 v2 v3 v4 v5 v6 v7 v8 s0 : Int32} {Q : Int32 → Ab → Prop} (hc : c ≤ 400) (hw : wfA c A) (H : ((s0 = 0) → (EA scr (e + 8) nL_isNeeded 160 [(0, .ref 0), (1, .int v1), (2, .int v2), (3, .int v3), (4, .int v4), (5, .int 0), (6, .int (v6 + 1))] [] A Q)) ∧ (¬ (s0 = 0) → (((((v3 >>> (v6 &&& 31)) &&& 1) = 0) → (EA scr (e + 8) nL_isNeeded 160 [(0, .ref 0), (1, .int v1), (2, .int v2), (3, .int v3), (4, .int v4), (5, .int 1), (6, .int (v6 + 1))] [] A Q)) ∧ (¬ (((v3 >>> (v6 &&& 31)) &&& 1) = 0) → (((¬ ((opDrawer A.1.1 v6 1) = 2)) → (EA scr (e + 8) nL_isNeeded 160 [(0, .ref 0), (1, .int v1), (2, .int v2), (3, .int v3), (4, .int v4), (5, .int 1), (6, .int (v6 + 1))] [] A Q)) ∧ (¬ (¬ ((opDrawer A.1.1 v6 1) = 2)) → ((((opDrawer A.1.1 v8 6) = 1) → (EA scr (e + 8) nL_isNeeded 160 [(0, .ref 0), (1, .int v1), (2, .int v2), (3, .int v3), (4, .int v4), (5, .int 1), (6, .int (v6 + 1))] [] A Q)) ∧ (¬ ((opDrawer A.1.1 v8 6) = 1) → (((¬ (((v3 >>> (v8 &&& 31)) &&& 1) = 1)) → (EA scr (e + 8) nL_isNeeded 160 [(0, .ref 0), (1, .int v1), (2, .int v2), (3, .int v3), (4, .int v4), (5, .int 0), (6, .int (v6 + 1))] [] A Q)) ∧ (¬ (¬ (((v3 >>> (v8 &&& 31)) &&& 1) = 1)) → (EA scr (e + 8) nL_isNeeded 160 [(0, .ref 0), (1, .int v1), (2, .int v2), (3, .int v3), (4, .int v4), (5, .int 1), (6, .int (v6 + 1))] [] A Q))))))))))) : EA scr (e + 8) nL_isNeeded 320 [(0, .ref 0), (1, .int v1), (2, .int v2), (3, .int v3), (4, .int v4), (5, .int v5), (6, .int v6), (7, .int v7), (8, .int v8)] [.int s0] A Q := by
  intro M h D hI
  refine ev_istore (pc1 := 322) (L1 := [(5, .int s0), (0, .ref 0), (1, .int v1), (2, .int v2), (3, .int v3), (4, .int v4), (6, .int v6), (7, .int v7), (8, .int v8)]) (by rw [ml_72]; decide) rfl (TBof tbs_72 _ rfl) rfl ?_
  refine ev_iload (pc1 := 324) rfl (TBof tbs_72 _ rfl) rfl ?_
  refine ev_if (pc1 := 327) (t := 373) (TBof tbs_72 _ rfl) (by decide) rfl (fun c1 => ?_) (fun c1 => ?_)
  · replace H := H.1 c1
    refine ev_iconst (pc1 := 374) (x := 0) (by decide) (TBof tbs_72 _ rfl) rfl ?_
    refine ev_istore (pc1 := 376) (L1 := [(5, .int 0), (0, .ref 0), (1, .int v1), (2, .int v2), (3, .int v3), (4, .int v4), (6, .int v6), (7, .int v7), (8, .int v8)]) (by rw [ml_72]; decide) rfl (TBof tbs_72 _ rfl) rfl ?_
    refine ev_iinc (pc1 := 379) (n := 6) (c := 1) (x := v6) (cc := 1) (L1 := [(6, .int (v6 + 1)), (5, .int 0), (0, .ref 0), (1, .int v1), (2, .int v2), (3, .int v3), (4, .int v4), (7, .int v7), (8, .int v8)]) rfl (by rw [ml_72]; decide) (by decide) rfl (TBof tbs_72 _ rfl) rfl ?_
    refine ev_goto (pc1 := 160) (TBof tbs_72 _ rfl) (by decide) ?_
    exact ev_le [2, 3, 4, 5, 6, 1, 0] rfl rfl (H _ _ _ hI)
  · replace H := H.2 c1
    refine ev_iload_n (pc1 := 328) rfl (TBof tbs_72 _ rfl) rfl ?_
    refine ev_iload (pc1 := 330) rfl (TBof tbs_72 _ rfl) rfl ?_
    refine ev_ishr (pc1 := 331) (TBof tbs_72 _ rfl) rfl ?_
    refine ev_iconst (pc1 := 332) (x := 1) (by decide) (TBof tbs_72 _ rfl) rfl ?_
    refine ev_iand (pc1 := 333) (TBof tbs_72 _ rfl) rfl ?_
    refine ev_if (pc1 := 336) (t := 369) (TBof tbs_72 _ rfl) (by decide) rfl (fun c2 => ?_) (fun c2 => ?_)
    · replace H := H.1 c2
      refine ev_iconst (pc1 := 370) (x := 1) (by decide) (TBof tbs_72 _ rfl) rfl ?_
      refine ev_goto (pc1 := 374) (TBof tbs_72 _ rfl) (by decide) ?_
      refine ev_istore (pc1 := 376) (L1 := [(5, .int 1), (0, .ref 0), (1, .int v1), (2, .int v2), (3, .int v3), (4, .int v4), (6, .int v6), (7, .int v7), (8, .int v8)]) (by rw [ml_72]; decide) rfl (TBof tbs_72 _ rfl) rfl ?_
      refine ev_iinc (pc1 := 379) (n := 6) (c := 1) (x := v6) (cc := 1) (L1 := [(6, .int (v6 + 1)), (5, .int 1), (0, .ref 0), (1, .int v1), (2, .int v2), (3, .int v3), (4, .int v4), (7, .int v7), (8, .int v8)]) rfl (by rw [ml_72]; decide) (by decide) rfl (TBof tbs_72 _ rfl) rfl ?_
      refine ev_goto (pc1 := 160) (TBof tbs_72 _ rfl) (by decide) ?_
      exact ev_le [2, 3, 4, 5, 6, 1, 0] rfl rfl (H _ _ _ hI)
    · replace H := H.2 c2
      refine ev_aload_n (pc1 := 337) rfl rfl (TBof tbs_72 _ rfl) rfl ?_
      refine ev_iload (pc1 := 339) rfl (TBof tbs_72 _ rfl) rfl ?_
      refine ev_iconst (pc1 := 340) (x := 1) (by decide) (TBof tbs_72 _ rfl) rfl ?_
      refine ev_callvI (pc1 := 343) (as := [.int v6, .int 1]) (r := []) (TBof tbs_72 _ rfl) rfl (lnkof mo_72 ln_7_27) rfl na_50 ltc_0 (sh_0.trans (by rw [mo_50])) (Nat.le_of_ble_eq_true rfl) (CN_drawer hw hI) (fun x3 M3 h3 D3 ⟨e3, hI⟩ => ?_)
      subst e3
      refine ev_iconst (pc1 := 344) (x := 2) (by decide) (TBof tbs_72 _ rfl) rfl ?_
      refine ev_icmp (pc1 := 347) (t := 369) (TBof tbs_72 _ rfl) (by decide) rfl (fun c4 => ?_) (fun c4 => ?_)
      · replace H := H.1 c4
        refine ev_iconst (pc1 := 370) (x := 1) (by decide) (TBof tbs_72 _ rfl) rfl ?_
        refine ev_goto (pc1 := 374) (TBof tbs_72 _ rfl) (by decide) ?_
        refine ev_istore (pc1 := 376) (L1 := [(5, .int 1), (0, .ref 0), (1, .int v1), (2, .int v2), (3, .int v3), (4, .int v4), (6, .int v6), (7, .int v7), (8, .int v8)]) (by rw [ml_72]; decide) rfl (TBof tbs_72 _ rfl) rfl ?_
        refine ev_iinc (pc1 := 379) (n := 6) (c := 1) (x := v6) (cc := 1) (L1 := [(6, .int (v6 + 1)), (5, .int 1), (0, .ref 0), (1, .int v1), (2, .int v2), (3, .int v3), (4, .int v4), (7, .int v7), (8, .int v8)]) rfl (by rw [ml_72]; decide) (by decide) rfl (TBof tbs_72 _ rfl) rfl ?_
        refine ev_goto (pc1 := 160) (TBof tbs_72 _ rfl) (by decide) ?_
        exact ev_le [2, 3, 4, 5, 6, 1, 0] rfl rfl (H _ _ _ hI)
      · replace H := H.2 c4
        refine ev_aload_n (pc1 := 348) rfl rfl (TBof tbs_72 _ rfl) rfl ?_
        refine ev_iload (pc1 := 350) rfl (TBof tbs_72 _ rfl) rfl ?_
        refine ev_bipush (pc1 := 352) (x := 6) (by decide) (TBof tbs_72 _ rfl) rfl ?_
        refine ev_callvI (pc1 := 355) (as := [.int v8, .int 6]) (r := []) (TBof tbs_72 _ rfl) rfl (lnkof mo_72 ln_7_27) rfl na_50 ltc_0 (sh_0.trans (by rw [mo_50])) (Nat.le_of_ble_eq_true rfl) (CN_drawer hw hI) (fun x5 M5 h5 D5 ⟨e5, hI⟩ => ?_)
        subst e5
        refine ev_iconst (pc1 := 356) (x := 1) (by decide) (TBof tbs_72 _ rfl) rfl ?_
        refine ev_icmp (pc1 := 359) (t := 369) (TBof tbs_72 _ rfl) (by decide) rfl (fun c6 => ?_) (fun c6 => ?_)
        · replace H := H.1 c6
          refine ev_iconst (pc1 := 370) (x := 1) (by decide) (TBof tbs_72 _ rfl) rfl ?_
          refine ev_goto (pc1 := 374) (TBof tbs_72 _ rfl) (by decide) ?_
          refine ev_istore (pc1 := 376) (L1 := [(5, .int 1), (0, .ref 0), (1, .int v1), (2, .int v2), (3, .int v3), (4, .int v4), (6, .int v6), (7, .int v7), (8, .int v8)]) (by rw [ml_72]; decide) rfl (TBof tbs_72 _ rfl) rfl ?_
          refine ev_iinc (pc1 := 379) (n := 6) (c := 1) (x := v6) (cc := 1) (L1 := [(6, .int (v6 + 1)), (5, .int 1), (0, .ref 0), (1, .int v1), (2, .int v2), (3, .int v3), (4, .int v4), (7, .int v7), (8, .int v8)]) rfl (by rw [ml_72]; decide) (by decide) rfl (TBof tbs_72 _ rfl) rfl ?_
          refine ev_goto (pc1 := 160) (TBof tbs_72 _ rfl) (by decide) ?_
          exact ev_le [2, 3, 4, 5, 6, 1, 0] rfl rfl (H _ _ _ hI)
        · replace H := H.2 c6
          refine ev_iload_n (pc1 := 360) rfl (TBof tbs_72 _ rfl) rfl ?_
          refine ev_iload (pc1 := 362) rfl (TBof tbs_72 _ rfl) rfl ?_
          refine ev_ishr (pc1 := 363) (TBof tbs_72 _ rfl) rfl ?_
          refine ev_iconst (pc1 := 364) (x := 1) (by decide) (TBof tbs_72 _ rfl) rfl ?_
          refine ev_iand (pc1 := 365) (TBof tbs_72 _ rfl) rfl ?_
          refine ev_iconst (pc1 := 366) (x := 1) (by decide) (TBof tbs_72 _ rfl) rfl ?_
          refine ev_icmp (pc1 := 369) (t := 373) (TBof tbs_72 _ rfl) (by decide) rfl (fun c7 => ?_) (fun c7 => ?_)
          · replace H := H.1 c7
            refine ev_iconst (pc1 := 374) (x := 0) (by decide) (TBof tbs_72 _ rfl) rfl ?_
            refine ev_istore (pc1 := 376) (L1 := [(5, .int 0), (0, .ref 0), (1, .int v1), (2, .int v2), (3, .int v3), (4, .int v4), (6, .int v6), (7, .int v7), (8, .int v8)]) (by rw [ml_72]; decide) rfl (TBof tbs_72 _ rfl) rfl ?_
            refine ev_iinc (pc1 := 379) (n := 6) (c := 1) (x := v6) (cc := 1) (L1 := [(6, .int (v6 + 1)), (5, .int 0), (0, .ref 0), (1, .int v1), (2, .int v2), (3, .int v3), (4, .int v4), (7, .int v7), (8, .int v8)]) rfl (by rw [ml_72]; decide) (by decide) rfl (TBof tbs_72 _ rfl) rfl ?_
            refine ev_goto (pc1 := 160) (TBof tbs_72 _ rfl) (by decide) ?_
            exact ev_le [2, 3, 4, 5, 6, 1, 0] rfl rfl (H _ _ _ hI)
          · replace H := H.2 c7
            refine ev_iconst (pc1 := 370) (x := 1) (by decide) (TBof tbs_72 _ rfl) rfl ?_
            refine ev_goto (pc1 := 374) (TBof tbs_72 _ rfl) (by decide) ?_
            refine ev_istore (pc1 := 376) (L1 := [(5, .int 1), (0, .ref 0), (1, .int v1), (2, .int v2), (3, .int v3), (4, .int v4), (6, .int v6), (7, .int v7), (8, .int v8)]) (by rw [ml_72]; decide) rfl (TBof tbs_72 _ rfl) rfl ?_
            refine ev_iinc (pc1 := 379) (n := 6) (c := 1) (x := v6) (cc := 1) (L1 := [(6, .int (v6 + 1)), (5, .int 1), (0, .ref 0), (1, .int v1), (2, .int v2), (3, .int v3), (4, .int v4), (7, .int v7), (8, .int v8)]) rfl (by rw [ml_72]; decide) (by decide) rfl (TBof tbs_72 _ rfl) rfl ?_
            refine ev_goto (pc1 := 160) (TBof tbs_72 _ rfl) (by decide) ?_
            exact ev_le [2, 3, 4, 5, 6, 1, 0] rfl rfl (H _ _ _ hI)
set_option maxRecDepth 100000 in
theorem R_L_isNeeded_382 {scr : Option (Nat × (Nat → Int32))} {e : Nat} {c : Nat} {A : Ab} {v1 v2 v3 v4 v5 v6 : Int32} {Q : Int32 → Ab → Prop} (hc : c ≤ 400) (hw : wfA c A) (H : ((v5 = 0) → (Q 0 A)) ∧ (¬ (v5 = 0) → (((¬ ((opDrawer A.1.1 v1 6) = 1)) → (((¬ (((v3 >>> (v1 &&& 31)) &&& 1) = 1)) → (Q 0 A)) ∧ (¬ (¬ (((v3 >>> (v1 &&& 31)) &&& 1) = 1)) → (Q 1 A)))) ∧ (¬ (¬ ((opDrawer A.1.1 v1 6) = 1)) → (((¬ (v2 = 0)) → (EA scr (e + 8) nL_isNeeded 407 [(0, .ref 0), (1, .int v1), (2, .int v2), (3, .int v3), (4, .int v4), (5, .int v5), (6, .int v6)] [.int 0] A Q)) ∧ (¬ (¬ (v2 = 0)) → (EA scr (e + 8) nL_isNeeded 407 [(0, .ref 0), (1, .int v1), (2, .int v2), (3, .int v3), (4, .int v4), (5, .int v5), (6, .int v6)] [.int 1] A Q))))))) : EA scr (e + 8) nL_isNeeded 382 [(0, .ref 0), (1, .int v1), (2, .int v2), (3, .int v3), (4, .int v4), (5, .int v5), (6, .int v6)] [] A Q := by
  intro M h D hI
  refine ev_iload (pc1 := 384) rfl (TBof tbs_72 _ rfl) rfl ?_
  refine ev_if (pc1 := 387) (t := 442) (TBof tbs_72 _ rfl) (by decide) rfl (fun c1 => ?_) (fun c1 => ?_)
  · replace H := H.1 c1
    refine ev_iconst (pc1 := 443) (x := 0) (by decide) (TBof tbs_72 _ rfl) rfl ?_
    exact ev_ireturn (TBof tbs_72 _ rfl) (retI_z rt_72 (Or.inl rfl)) ⟨_, rfl, _, H, hI⟩
  · replace H := H.2 c1
    refine ev_aload_n (pc1 := 388) rfl rfl (TBof tbs_72 _ rfl) rfl ?_
    refine ev_iload_n (pc1 := 389) rfl (TBof tbs_72 _ rfl) rfl ?_
    refine ev_bipush (pc1 := 391) (x := 6) (by decide) (TBof tbs_72 _ rfl) rfl ?_
    refine ev_callvI (pc1 := 394) (as := [.int v1, .int 6]) (r := []) (TBof tbs_72 _ rfl) rfl (lnkof mo_72 ln_7_27) rfl na_50 ltc_0 (sh_0.trans (by rw [mo_50])) (Nat.le_of_ble_eq_true rfl) (CN_drawer hw hI) (fun x2 M2 h2 D2 ⟨e2, hI⟩ => ?_)
    subst e2
    refine ev_iconst (pc1 := 395) (x := 1) (by decide) (TBof tbs_72 _ rfl) rfl ?_
    refine ev_icmp (pc1 := 398) (t := 429) (TBof tbs_72 _ rfl) (by decide) rfl (fun c3 => ?_) (fun c3 => ?_)
    · replace H := H.1 c3
      refine ev_iload_n (pc1 := 430) rfl (TBof tbs_72 _ rfl) rfl ?_
      refine ev_iload_n (pc1 := 431) rfl (TBof tbs_72 _ rfl) rfl ?_
      refine ev_ishr (pc1 := 432) (TBof tbs_72 _ rfl) rfl ?_
      refine ev_iconst (pc1 := 433) (x := 1) (by decide) (TBof tbs_72 _ rfl) rfl ?_
      refine ev_iand (pc1 := 434) (TBof tbs_72 _ rfl) rfl ?_
      refine ev_iconst (pc1 := 435) (x := 1) (by decide) (TBof tbs_72 _ rfl) rfl ?_
      refine ev_icmp (pc1 := 438) (t := 442) (TBof tbs_72 _ rfl) (by decide) rfl (fun c4 => ?_) (fun c4 => ?_)
      · replace H := H.1 c4
        refine ev_iconst (pc1 := 443) (x := 0) (by decide) (TBof tbs_72 _ rfl) rfl ?_
        exact ev_ireturn (TBof tbs_72 _ rfl) (retI_z rt_72 (Or.inl rfl)) ⟨_, rfl, _, H, hI⟩
      · replace H := H.2 c4
        refine ev_iconst (pc1 := 439) (x := 1) (by decide) (TBof tbs_72 _ rfl) rfl ?_
        refine ev_goto (pc1 := 443) (TBof tbs_72 _ rfl) (by decide) ?_
        exact ev_ireturn (TBof tbs_72 _ rfl) (retI_z rt_72 (Or.inr rfl)) ⟨_, rfl, _, H, hI⟩
    · replace H := H.2 c3
      refine ev_iload_n (pc1 := 399) rfl (TBof tbs_72 _ rfl) rfl ?_
      refine ev_if (pc1 := 402) (t := 406) (TBof tbs_72 _ rfl) (by decide) rfl (fun c5 => ?_) (fun c5 => ?_)
      · replace H := H.1 c5
        refine ev_iconst (pc1 := 407) (x := 0) (by decide) (TBof tbs_72 _ rfl) rfl ?_
        exact ev_le [0, 1, 2, 3, 4, 5, 6] rfl rfl (H _ _ _ hI)
      · replace H := H.2 c5
        refine ev_iconst (pc1 := 403) (x := 1) (by decide) (TBof tbs_72 _ rfl) rfl ?_
        refine ev_goto (pc1 := 407) (TBof tbs_72 _ rfl) (by decide) ?_
        exact ev_le [0, 1, 2, 3, 4, 5, 6] rfl rfl (H _ _ _ hI)
set_option maxRecDepth 100000 in
theorem R_L_isNeeded_407 {scr : Option (Nat × (Nat → Int32))} {e : Nat} {c : Nat} {A : Ab} {v1 v2 v3 v4 v5 v6 s0 : Int32} {Q : Int32 → Ab → Prop} (hc : c ≤ 400) (hw : wfA c A) (H : ((¬ ((opDrawer A.1.1 v1 8) = 1)) → (((¬ (s0 = 0)) → (Q 0 A)) ∧ (¬ (¬ (s0 = 0)) → (Q 1 A)))) ∧ (¬ (¬ ((opDrawer A.1.1 v1 8) = 1)) → (((¬ (s0 = 1)) → (Q 0 A)) ∧ (¬ (¬ (s0 = 1)) → (Q 1 A))))) : EA scr (e + 8) nL_isNeeded 407 [(0, .ref 0), (1, .int v1), (2, .int v2), (3, .int v3), (4, .int v4), (5, .int v5), (6, .int v6)] [.int s0] A Q := by
  intro M h D hI
  refine ev_aload_n (pc1 := 408) rfl rfl (TBof tbs_72 _ rfl) rfl ?_
  refine ev_iload_n (pc1 := 409) rfl (TBof tbs_72 _ rfl) rfl ?_
  refine ev_bipush (pc1 := 411) (x := 8) (by decide) (TBof tbs_72 _ rfl) rfl ?_
  refine ev_callvI (pc1 := 414) (as := [.int v1, .int 8]) (r := [.int s0]) (TBof tbs_72 _ rfl) rfl (lnkof mo_72 ln_7_27) rfl na_50 ltc_0 (sh_0.trans (by rw [mo_50])) (Nat.le_of_ble_eq_true rfl) (CN_drawer hw hI) (fun x1 M1 h1 D1 ⟨e1, hI⟩ => ?_)
  subst e1
  refine ev_iconst (pc1 := 415) (x := 1) (by decide) (TBof tbs_72 _ rfl) rfl ?_
  refine ev_icmp (pc1 := 418) (t := 422) (TBof tbs_72 _ rfl) (by decide) rfl (fun c2 => ?_) (fun c2 => ?_)
  · replace H := H.1 c2
    refine ev_iconst (pc1 := 423) (x := 0) (by decide) (TBof tbs_72 _ rfl) rfl ?_
    refine ev_icmp (pc1 := 426) (t := 442) (TBof tbs_72 _ rfl) (by decide) rfl (fun c3 => ?_) (fun c3 => ?_)
    · replace H := H.1 c3
      refine ev_iconst (pc1 := 443) (x := 0) (by decide) (TBof tbs_72 _ rfl) rfl ?_
      exact ev_ireturn (TBof tbs_72 _ rfl) (retI_z rt_72 (Or.inl rfl)) ⟨_, rfl, _, H, hI⟩
    · replace H := H.2 c3
      refine ev_goto (pc1 := 438) (TBof tbs_72 _ rfl) (by decide) ?_
      refine ev_iconst (pc1 := 439) (x := 1) (by decide) (TBof tbs_72 _ rfl) rfl ?_
      refine ev_goto (pc1 := 443) (TBof tbs_72 _ rfl) (by decide) ?_
      exact ev_ireturn (TBof tbs_72 _ rfl) (retI_z rt_72 (Or.inr rfl)) ⟨_, rfl, _, H, hI⟩
  · replace H := H.2 c2
    refine ev_iconst (pc1 := 419) (x := 1) (by decide) (TBof tbs_72 _ rfl) rfl ?_
    refine ev_goto (pc1 := 423) (TBof tbs_72 _ rfl) (by decide) ?_
    refine ev_icmp (pc1 := 426) (t := 442) (TBof tbs_72 _ rfl) (by decide) rfl (fun c4 => ?_) (fun c4 => ?_)
    · replace H := H.1 c4
      refine ev_iconst (pc1 := 443) (x := 0) (by decide) (TBof tbs_72 _ rfl) rfl ?_
      exact ev_ireturn (TBof tbs_72 _ rfl) (retI_z rt_72 (Or.inl rfl)) ⟨_, rfl, _, H, hI⟩
    · replace H := H.2 c4
      refine ev_goto (pc1 := 438) (TBof tbs_72 _ rfl) (by decide) ?_
      refine ev_iconst (pc1 := 439) (x := 1) (by decide) (TBof tbs_72 _ rfl) rfl ?_
      refine ev_goto (pc1 := 443) (TBof tbs_72 _ rfl) (by decide) ?_
      exact ev_ireturn (TBof tbs_72 _ rfl) (retI_z rt_72 (Or.inr rfl)) ⟨_, rfl, _, H, hI⟩

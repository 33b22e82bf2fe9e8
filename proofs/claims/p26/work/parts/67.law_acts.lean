/-! what each block of the law asks: acts -/
set_option maxRecDepth 100000 in
theorem R_L_acts_0 {scr : Option (Nat × (Nat → Int32))} {e : Nat} {c : Nat} {A : Ab} {v1 : Int32} {Q : Int32 → Ab → Prop} (hc : c ≤ 400) (hw : wfA c A) (H : (opCount (nOf A.1.1) A 0) ≠ 0 ∧ (((¬ ((opDrawer A.1.1 ((v1 >>> (3 &&& 31)) - (v1 >>> (3 &&& 31)) / (opCount (nOf A.1.1) A 0) * (opCount (nOf A.1.1) A 0)) 8) = 1)) → (((¬ ((opDrawer A.1.1 ((v1 >>> (3 &&& 31)) - (v1 >>> (3 &&& 31)) / (opCount (nOf A.1.1) A 0) * (opCount (nOf A.1.1) A 0)) 6) = 1)) → (EA scr (e + 8) nL_acts 50 [(0, .ref 0), (1, .int v1), (2, .int ((v1 >>> (3 &&& 31)) - (v1 >>> (3 &&& 31)) / (opCount (nOf A.1.1) A 0) * (opCount (nOf A.1.1) A 0))), (3, .int (opCount (nOf A.1.1) A 2)), (4, .int 0)] [.int 0] A Q)) ∧ (¬ (¬ ((opDrawer A.1.1 ((v1 >>> (3 &&& 31)) - (v1 >>> (3 &&& 31)) / (opCount (nOf A.1.1) A 0) * (opCount (nOf A.1.1) A 0)) 6) = 1)) → (EA scr (e + 8) nL_acts 50 [(0, .ref 0), (1, .int v1), (2, .int ((v1 >>> (3 &&& 31)) - (v1 >>> (3 &&& 31)) / (opCount (nOf A.1.1) A 0) * (opCount (nOf A.1.1) A 0))), (3, .int (opCount (nOf A.1.1) A 2)), (4, .int 0)] [.int 1] A Q)))) ∧ (¬ (¬ ((opDrawer A.1.1 ((v1 >>> (3 &&& 31)) - (v1 >>> (3 &&& 31)) / (opCount (nOf A.1.1) A 0) * (opCount (nOf A.1.1) A 0)) 8) = 1)) → (((¬ ((opDrawer A.1.1 ((v1 >>> (3 &&& 31)) - (v1 >>> (3 &&& 31)) / (opCount (nOf A.1.1) A 0) * (opCount (nOf A.1.1) A 0)) 6) = 1)) → (EA scr (e + 8) nL_acts 50 [(0, .ref 0), (1, .int v1), (2, .int ((v1 >>> (3 &&& 31)) - (v1 >>> (3 &&& 31)) / (opCount (nOf A.1.1) A 0) * (opCount (nOf A.1.1) A 0))), (3, .int (opCount (nOf A.1.1) A 2)), (4, .int 1)] [.int 0] A Q)) ∧ (¬ (¬ ((opDrawer A.1.1 ((v1 >>> (3 &&& 31)) - (v1 >>> (3 &&& 31)) / (opCount (nOf A.1.1) A 0) * (opCount (nOf A.1.1) A 0)) 6) = 1)) → (EA scr (e + 8) nL_acts 50 [(0, .ref 0), (1, .int v1), (2, .int ((v1 >>> (3 &&& 31)) - (v1 >>> (3 &&& 31)) / (opCount (nOf A.1.1) A 0) * (opCount (nOf A.1.1) A 0))), (3, .int (opCount (nOf A.1.1) A 2)), (4, .int 1)] [.int 1] A Q)))))) : EA scr (e + 8) nL_acts 0 [(0, .ref 0), (1, .int v1)] [] A Q := by
  intro M h D hI
  refine ev_iload_n (pc1 := 1) rfl (TBof tbs_76 _ rfl) rfl ?_
  refine ev_iconst (pc1 := 2) (x := 3) (by decide) (TBof tbs_76 _ rfl) rfl ?_
  refine ev_ishr (pc1 := 3) (TBof tbs_76 _ rfl) rfl ?_
  refine ev_aload_n (pc1 := 4) rfl rfl (TBof tbs_76 _ rfl) rfl ?_
  refine ev_iconst (pc1 := 5) (x := 0) (by decide) (TBof tbs_76 _ rfl) rfl ?_
  refine ev_callvI (pc1 := 8) (as := [.int 0]) (r := [.int (v1 >>> (3 &&& 31))]) (TBof tbs_76 _ rfl) rfl (lnkof mo_76 ln_7_24) rfl na_56 ltc_0 (sh_0.trans (by rw [mo_56])) (Nat.le_of_ble_eq_true rfl) (CN_count hw hI) (fun x1 M1 h1 D1 ⟨e1, hI⟩ => ?_)
  subst e1
  refine ev_irem (pc1 := 9) H.1 (TBof tbs_76 _ rfl) rfl ?_
  replace H := H.2
  refine ev_istore_n (pc1 := 10) (L1 := [(2, .int ((v1 >>> (3 &&& 31)) - (v1 >>> (3 &&& 31)) / (opCount (nOf A.1.1) A 0) * (opCount (nOf A.1.1) A 0))), (0, .ref 0), (1, .int v1)]) (by rw [ml_76]; decide) rfl (TBof tbs_76 _ rfl) rfl ?_
  refine ev_aload_n (pc1 := 11) rfl rfl (TBof tbs_76 _ rfl) rfl ?_
  refine ev_iconst (pc1 := 12) (x := 2) (by decide) (TBof tbs_76 _ rfl) rfl ?_
  refine ev_callvI (pc1 := 15) (as := [.int 2]) (r := []) (TBof tbs_76 _ rfl) rfl (lnkof mo_76 ln_7_24) rfl na_56 ltc_0 (sh_0.trans (by rw [mo_56])) (Nat.le_of_ble_eq_true rfl) (CN_count hw hI) (fun x2 M2 h2 D2 ⟨e2, hI⟩ => ?_)
  subst e2
  refine ev_istore_n (pc1 := 16) (L1 := [(3, .int (opCount (nOf A.1.1) A 2)), (2, .int ((v1 >>> (3 &&& 31)) - (v1 >>> (3 &&& 31)) / (opCount (nOf A.1.1) A 0) * (opCount (nOf A.1.1) A 0))), (0, .ref 0), (1, .int v1)]) (by rw [ml_76]; decide) rfl (TBof tbs_76 _ rfl) rfl ?_
  refine ev_aload_n (pc1 := 17) rfl rfl (TBof tbs_76 _ rfl) rfl ?_
  refine ev_iload_n (pc1 := 18) rfl (TBof tbs_76 _ rfl) rfl ?_
  refine ev_bipush (pc1 := 20) (x := 8) (by decide) (TBof tbs_76 _ rfl) rfl ?_
  refine ev_callvI (pc1 := 23) (as := [.int ((v1 >>> (3 &&& 31)) - (v1 >>> (3 &&& 31)) / (opCount (nOf A.1.1) A 0) * (opCount (nOf A.1.1) A 0)), .int 8]) (r := []) (TBof tbs_76 _ rfl) rfl (lnkof mo_76 ln_7_27) rfl na_50 ltc_0 (sh_0.trans (by rw [mo_50])) (Nat.le_of_ble_eq_true rfl) (CN_drawer hw hI) (fun x3 M3 h3 D3 ⟨e3, hI⟩ => ?_)
  subst e3
  refine ev_iconst (pc1 := 24) (x := 1) (by decide) (TBof tbs_76 _ rfl) rfl ?_
  refine ev_icmp (pc1 := 27) (t := 31) (TBof tbs_76 _ rfl) (by decide) rfl (fun c4 => ?_) (fun c4 => ?_)
  · replace H := H.1 c4
    refine ev_iconst (pc1 := 32) (x := 0) (by decide) (TBof tbs_76 _ rfl) rfl ?_
    refine ev_istore (pc1 := 34) (L1 := [(4, .int 0), (3, .int (opCount (nOf A.1.1) A 2)), (2, .int ((v1 >>> (3 &&& 31)) - (v1 >>> (3 &&& 31)) / (opCount (nOf A.1.1) A 0) * (opCount (nOf A.1.1) A 0))), (0, .ref 0), (1, .int v1)]) (by rw [ml_76]; decide) rfl (TBof tbs_76 _ rfl) rfl ?_
    refine ev_aload_n (pc1 := 35) rfl rfl (TBof tbs_76 _ rfl) rfl ?_
    refine ev_iload_n (pc1 := 36) rfl (TBof tbs_76 _ rfl) rfl ?_
    refine ev_bipush (pc1 := 38) (x := 6) (by decide) (TBof tbs_76 _ rfl) rfl ?_
    refine ev_callvI (pc1 := 41) (as := [.int ((v1 >>> (3 &&& 31)) - (v1 >>> (3 &&& 31)) / (opCount (nOf A.1.1) A 0) * (opCount (nOf A.1.1) A 0)), .int 6]) (r := []) (TBof tbs_76 _ rfl) rfl (lnkof mo_76 ln_7_27) rfl na_50 ltc_0 (sh_0.trans (by rw [mo_50])) (Nat.le_of_ble_eq_true rfl) (CN_drawer hw hI) (fun x5 M5 h5 D5 ⟨e5, hI⟩ => ?_)
    subst e5
    refine ev_iconst (pc1 := 42) (x := 1) (by decide) (TBof tbs_76 _ rfl) rfl ?_
    refine ev_icmp (pc1 := 45) (t := 49) (TBof tbs_76 _ rfl) (by decide) rfl (fun c6 => ?_) (fun c6 => ?_)
    · replace H := H.1 c6
      refine ev_iconst (pc1 := 50) (x := 0) (by decide) (TBof tbs_76 _ rfl) rfl ?_
      exact ev_le [3, 4, 2, 1, 0] rfl rfl (H _ _ _ hI)
    · replace H := H.2 c6
      refine ev_iconst (pc1 := 46) (x := 1) (by decide) (TBof tbs_76 _ rfl) rfl ?_
      refine ev_goto (pc1 := 50) (TBof tbs_76 _ rfl) (by decide) ?_
      exact ev_le [3, 4, 2, 1, 0] rfl rfl (H _ _ _ hI)
  · replace H := H.2 c4
    refine ev_iconst (pc1 := 28) (x := 1) (by decide) (TBof tbs_76 _ rfl) rfl ?_
    refine ev_goto (pc1 := 32) (TBof tbs_76 _ rfl) (by decide) ?_
    refine ev_istore (pc1 := 34) (L1 := [(4, .int 1), (3, .int (opCount (nOf A.1.1) A 2)), (2, .int ((v1 >>> (3 &&& 31)) - (v1 >>> (3 &&& 31)) / (opCount (nOf A.1.1) A 0) * (opCount (nOf A.1.1) A 0))), (0, .ref 0), (1, .int v1)]) (by rw [ml_76]; decide) rfl (TBof tbs_76 _ rfl) rfl ?_
    refine ev_aload_n (pc1 := 35) rfl rfl (TBof tbs_76 _ rfl) rfl ?_
    refine ev_iload_n (pc1 := 36) rfl (TBof tbs_76 _ rfl) rfl ?_
    refine ev_bipush (pc1 := 38) (x := 6) (by decide) (TBof tbs_76 _ rfl) rfl ?_
    refine ev_callvI (pc1 := 41) (as := [.int ((v1 >>> (3 &&& 31)) - (v1 >>> (3 &&& 31)) / (opCount (nOf A.1.1) A 0) * (opCount (nOf A.1.1) A 0)), .int 6]) (r := []) (TBof tbs_76 _ rfl) rfl (lnkof mo_76 ln_7_27) rfl na_50 ltc_0 (sh_0.trans (by rw [mo_50])) (Nat.le_of_ble_eq_true rfl) (CN_drawer hw hI) (fun x7 M7 h7 D7 ⟨e7, hI⟩ => ?_)
    subst e7
    refine ev_iconst (pc1 := 42) (x := 1) (by decide) (TBof tbs_76 _ rfl) rfl ?_
    refine ev_icmp (pc1 := 45) (t := 49) (TBof tbs_76 _ rfl) (by decide) rfl (fun c8 => ?_) (fun c8 => ?_)
    · replace H := H.1 c8
      refine ev_iconst (pc1 := 50) (x := 0) (by decide) (TBof tbs_76 _ rfl) rfl ?_
      exact ev_le [3, 4, 2, 1, 0] rfl rfl (H _ _ _ hI)
    · replace H := H.2 c8
      refine ev_iconst (pc1 := 46) (x := 1) (by decide) (TBof tbs_76 _ rfl) rfl ?_
      refine ev_goto (pc1 := 50) (TBof tbs_76 _ rfl) (by decide) ?_
      exact ev_le [3, 4, 2, 1, 0] rfl rfl (H _ _ _ hI)
set_option maxRecDepth 100000 in
theorem R_L_acts_50 {scr : Option (Nat × (Nat → Int32))} {e : Nat} {c : Nat} {A : Ab} {v1 v2 v3 v4 s0 : Int32} {Q : Int32 → Ab → Prop} (hc : c ≤ 400) (hw : wfA c A) (H : (3 : Int32) ≠ 0 ∧ (((¬ ((v1 - v1 / 3 * 3) = 0)) → ((3 : Int32) ≠ 0 ∧ (((¬ ((v1 - v1 / 3 * 3) = 1)) → (((¬ ((((opCount (nOf A.1.1) A 8) >>> (v2 &&& 31)) &&& 1) = 1)) → (EA scr (e + 8) nL_acts 210 [(0, .ref 0), (1, .int v1), (2, .int v2), (3, .int v3), (4, .int v4), (5, .int s0)] [.int 0] A Q)) ∧ (¬ (¬ ((((opCount (nOf A.1.1) A 8) >>> (v2 &&& 31)) &&& 1) = 1)) → (EA scr (e + 8) nL_acts 210 [(0, .ref 0), (1, .int v1), (2, .int v2), (3, .int v3), (4, .int v4), (5, .int s0)] [.int 1] A Q)))) ∧ (¬ (¬ ((v1 - v1 / 3 * 3) = 1)) → (((¬ ((opDrawer A.1.1 v2 7) = 1)) → (EA scr (e + 8) nL_acts 129 [(0, .ref 0), (1, .int v1), (2, .int v2), (3, .int v3), (4, .int v4), (5, .int s0), (6, .int (opCount (nOf A.1.1) A 4))] [.int 0] A Q)) ∧ (¬ (¬ ((opDrawer A.1.1 v2 7) = 1)) → (EA scr (e + 8) nL_acts 129 [(0, .ref 0), (1, .int v1), (2, .int v2), (3, .int v3), (4, .int v4), (5, .int s0), (6, .int (opCount (nOf A.1.1) A 4))] [.int 1] A Q))))))) ∧ (¬ (¬ ((v1 - v1 / 3 * 3) = 0)) → (∀ (x8 : Int32) (A8 : Ab), opClose A v2 = (x8, A8) → (((¬ (s0 = 0)) → (((¬ (v4 = 0)) → (((¬ (x8 = (v3 - 1))) → (Q 0 A8)) ∧ (¬ (¬ (x8 = (v3 - 1))) → (Q 1 A8)))) ∧ (¬ (¬ (v4 = 0)) → (((¬ (x8 = (-4))) → (Q 0 A8)) ∧ (¬ (¬ (x8 = (-4))) → (Q 1 A8)))))) ∧ (¬ (¬ (s0 = 0)) → (((¬ (x8 = (-5))) → (Q 0 A8)) ∧ (¬ (¬ (x8 = (-5))) → (Q 1 A8))))))))) : EA scr (e + 8) nL_acts 50 [(0, .ref 0), (1, .int v1), (2, .int v2), (3, .int v3), (4, .int v4)] [.int s0] A Q := by
  intro M h D hI
  refine ev_istore (pc1 := 52) (L1 := [(5, .int s0), (0, .ref 0), (1, .int v1), (2, .int v2), (3, .int v3), (4, .int v4)]) (by rw [ml_76]; decide) rfl (TBof tbs_76 _ rfl) rfl ?_
  refine ev_iload_n (pc1 := 53) rfl (TBof tbs_76 _ rfl) rfl ?_
  refine ev_iconst (pc1 := 54) (x := 3) (by decide) (TBof tbs_76 _ rfl) rfl ?_
  refine ev_irem (pc1 := 55) H.1 (TBof tbs_76 _ rfl) rfl ?_
  replace H := H.2
  refine ev_if (pc1 := 58) (t := 99) (TBof tbs_76 _ rfl) (by decide) rfl (fun c1 => ?_) (fun c1 => ?_)
  · replace H := H.1 c1
    refine ev_iload_n (pc1 := 100) rfl (TBof tbs_76 _ rfl) rfl ?_
    refine ev_iconst (pc1 := 101) (x := 3) (by decide) (TBof tbs_76 _ rfl) rfl ?_
    refine ev_irem (pc1 := 102) H.1 (TBof tbs_76 _ rfl) rfl ?_
    replace H := H.2
    refine ev_iconst (pc1 := 103) (x := 1) (by decide) (TBof tbs_76 _ rfl) rfl ?_
    refine ev_icmp (pc1 := 106) (t := 191) (TBof tbs_76 _ rfl) (by decide) rfl (fun c2 => ?_) (fun c2 => ?_)
    · replace H := H.1 c2
      refine ev_aload_n (pc1 := 192) rfl rfl (TBof tbs_76 _ rfl) rfl ?_
      refine ev_bipush (pc1 := 194) (x := 8) (by decide) (TBof tbs_76 _ rfl) rfl ?_
      refine ev_callvI (pc1 := 197) (as := [.int 8]) (r := []) (TBof tbs_76 _ rfl) rfl (lnkof mo_76 ln_7_24) rfl na_56 ltc_0 (sh_0.trans (by rw [mo_56])) (Nat.le_of_ble_eq_true rfl) (CN_count hw hI) (fun x3 M3 h3 D3 ⟨e3, hI⟩ => ?_)
      subst e3
      refine ev_iload_n (pc1 := 198) rfl (TBof tbs_76 _ rfl) rfl ?_
      refine ev_ishr (pc1 := 199) (TBof tbs_76 _ rfl) rfl ?_
      refine ev_iconst (pc1 := 200) (x := 1) (by decide) (TBof tbs_76 _ rfl) rfl ?_
      refine ev_iand (pc1 := 201) (TBof tbs_76 _ rfl) rfl ?_
      refine ev_iconst (pc1 := 202) (x := 1) (by decide) (TBof tbs_76 _ rfl) rfl ?_
      refine ev_icmp (pc1 := 205) (t := 209) (TBof tbs_76 _ rfl) (by decide) rfl (fun c4 => ?_) (fun c4 => ?_)
      · replace H := H.1 c4
        refine ev_iconst (pc1 := 210) (x := 0) (by decide) (TBof tbs_76 _ rfl) rfl ?_
        exact ev_le [1, 2, 3, 4, 5, 0] rfl rfl (H _ _ _ hI)
      · replace H := H.2 c4
        refine ev_iconst (pc1 := 206) (x := 1) (by decide) (TBof tbs_76 _ rfl) rfl ?_
        refine ev_goto (pc1 := 210) (TBof tbs_76 _ rfl) (by decide) ?_
        exact ev_le [1, 2, 3, 4, 5, 0] rfl rfl (H _ _ _ hI)
    · replace H := H.2 c2
      refine ev_aload_n (pc1 := 107) rfl rfl (TBof tbs_76 _ rfl) rfl ?_
      refine ev_iconst (pc1 := 108) (x := 4) (by decide) (TBof tbs_76 _ rfl) rfl ?_
      refine ev_callvI (pc1 := 111) (as := [.int 4]) (r := []) (TBof tbs_76 _ rfl) rfl (lnkof mo_76 ln_7_24) rfl na_56 ltc_0 (sh_0.trans (by rw [mo_56])) (Nat.le_of_ble_eq_true rfl) (CN_count hw hI) (fun x5 M5 h5 D5 ⟨e5, hI⟩ => ?_)
      subst e5
      refine ev_istore (pc1 := 113) (L1 := [(6, .int (opCount (nOf A.1.1) A 4)), (5, .int s0), (0, .ref 0), (1, .int v1), (2, .int v2), (3, .int v3), (4, .int v4)]) (by rw [ml_76]; decide) rfl (TBof tbs_76 _ rfl) rfl ?_
      refine ev_aload_n (pc1 := 114) rfl rfl (TBof tbs_76 _ rfl) rfl ?_
      refine ev_iload_n (pc1 := 115) rfl (TBof tbs_76 _ rfl) rfl ?_
      refine ev_bipush (pc1 := 117) (x := 7) (by decide) (TBof tbs_76 _ rfl) rfl ?_
      refine ev_callvI (pc1 := 120) (as := [.int v2, .int 7]) (r := []) (TBof tbs_76 _ rfl) rfl (lnkof mo_76 ln_7_27) rfl na_50 ltc_0 (sh_0.trans (by rw [mo_50])) (Nat.le_of_ble_eq_true rfl) (CN_drawer hw hI) (fun x6 M6 h6 D6 ⟨e6, hI⟩ => ?_)
      subst e6
      refine ev_iconst (pc1 := 121) (x := 1) (by decide) (TBof tbs_76 _ rfl) rfl ?_
      refine ev_icmp (pc1 := 124) (t := 128) (TBof tbs_76 _ rfl) (by decide) rfl (fun c7 => ?_) (fun c7 => ?_)
      · replace H := H.1 c7
        refine ev_iconst (pc1 := 129) (x := 0) (by decide) (TBof tbs_76 _ rfl) rfl ?_
        exact ev_le [2, 3, 4, 5, 6, 1, 0] rfl rfl (H _ _ _ hI)
      · replace H := H.2 c7
        refine ev_iconst (pc1 := 125) (x := 1) (by decide) (TBof tbs_76 _ rfl) rfl ?_
        refine ev_goto (pc1 := 129) (TBof tbs_76 _ rfl) (by decide) ?_
        exact ev_le [2, 3, 4, 5, 6, 1, 0] rfl rfl (H _ _ _ hI)
  · replace H := H.2 c1
    refine ev_aload_n (pc1 := 59) rfl rfl (TBof tbs_76 _ rfl) rfl ?_
    refine ev_iload_n (pc1 := 60) rfl (TBof tbs_76 _ rfl) rfl ?_
    refine ev_callvI (pc1 := 63) (as := [.int v2]) (r := []) (TBof tbs_76 _ rfl) rfl (lnkof mo_76 ln_7_67) rfl na_45 ltc_0 (sh_0.trans (by rw [mo_45])) (Nat.le_of_ble_eq_true rfl) (CN_close hw hI) (fun x8 M8 h8 D8 ⟨A8, q8, hI, hw⟩ => ?_)
    replace H := H x8 A8 q8
    refine ev_istore (pc1 := 65) (L1 := [(6, .int x8), (5, .int s0), (0, .ref 0), (1, .int v1), (2, .int v2), (3, .int v3), (4, .int v4)]) (by rw [ml_76]; decide) rfl (TBof tbs_76 _ rfl) rfl ?_
    refine ev_iload (pc1 := 67) rfl (TBof tbs_76 _ rfl) rfl ?_
    refine ev_iload (pc1 := 69) rfl (TBof tbs_76 _ rfl) rfl ?_
    refine ev_if (pc1 := 72) (t := 77) (TBof tbs_76 _ rfl) (by decide) rfl (fun c9 => ?_) (fun c9 => ?_)
    · replace H := H.1 c9
      refine ev_iload (pc1 := 79) rfl (TBof tbs_76 _ rfl) rfl ?_
      refine ev_if (pc1 := 82) (t := 87) (TBof tbs_76 _ rfl) (by decide) rfl (fun c10 => ?_) (fun c10 => ?_)
      · replace H := H.1 c10
        refine ev_iload_n (pc1 := 88) rfl (TBof tbs_76 _ rfl) rfl ?_
        refine ev_iconst (pc1 := 89) (x := 1) (by decide) (TBof tbs_76 _ rfl) rfl ?_
        refine ev_isub (pc1 := 90) (TBof tbs_76 _ rfl) rfl ?_
        refine ev_icmp (pc1 := 93) (t := 97) (TBof tbs_76 _ rfl) (by decide) rfl (fun c11 => ?_) (fun c11 => ?_)
        · replace H := H.1 c11
          refine ev_iconst (pc1 := 98) (x := 0) (by decide) (TBof tbs_76 _ rfl) rfl ?_
          exact ev_ireturn (TBof tbs_76 _ rfl) (retI_z rt_76 (Or.inl rfl)) ⟨_, rfl, _, H, hI⟩
        · replace H := H.2 c11
          refine ev_iconst (pc1 := 94) (x := 1) (by decide) (TBof tbs_76 _ rfl) rfl ?_
          refine ev_goto (pc1 := 98) (TBof tbs_76 _ rfl) (by decide) ?_
          exact ev_ireturn (TBof tbs_76 _ rfl) (retI_z rt_76 (Or.inr rfl)) ⟨_, rfl, _, H, hI⟩
      · replace H := H.2 c10
        refine ev_bipush (pc1 := 84) (x := (-4)) (by decide) (TBof tbs_76 _ rfl) rfl ?_
        refine ev_goto (pc1 := 90) (TBof tbs_76 _ rfl) (by decide) ?_
        refine ev_icmp (pc1 := 93) (t := 97) (TBof tbs_76 _ rfl) (by decide) rfl (fun c12 => ?_) (fun c12 => ?_)
        · replace H := H.1 c12
          refine ev_iconst (pc1 := 98) (x := 0) (by decide) (TBof tbs_76 _ rfl) rfl ?_
          exact ev_ireturn (TBof tbs_76 _ rfl) (retI_z rt_76 (Or.inl rfl)) ⟨_, rfl, _, H, hI⟩
        · replace H := H.2 c12
          refine ev_iconst (pc1 := 94) (x := 1) (by decide) (TBof tbs_76 _ rfl) rfl ?_
          refine ev_goto (pc1 := 98) (TBof tbs_76 _ rfl) (by decide) ?_
          exact ev_ireturn (TBof tbs_76 _ rfl) (retI_z rt_76 (Or.inr rfl)) ⟨_, rfl, _, H, hI⟩
    · replace H := H.2 c9
      refine ev_bipush (pc1 := 74) (x := (-5)) (by decide) (TBof tbs_76 _ rfl) rfl ?_
      refine ev_goto (pc1 := 90) (TBof tbs_76 _ rfl) (by decide) ?_
      refine ev_icmp (pc1 := 93) (t := 97) (TBof tbs_76 _ rfl) (by decide) rfl (fun c13 => ?_) (fun c13 => ?_)
      · replace H := H.1 c13
        refine ev_iconst (pc1 := 98) (x := 0) (by decide) (TBof tbs_76 _ rfl) rfl ?_
        exact ev_ireturn (TBof tbs_76 _ rfl) (retI_z rt_76 (Or.inl rfl)) ⟨_, rfl, _, H, hI⟩
      · replace H := H.2 c13
        refine ev_iconst (pc1 := 94) (x := 1) (by decide) (TBof tbs_76 _ rfl) rfl ?_
        refine ev_goto (pc1 := 98) (TBof tbs_76 _ rfl) (by decide) ?_
        exact ev_ireturn (TBof tbs_76 _ rfl) (retI_z rt_76 (Or.inr rfl)) ⟨_, rfl, _, H, hI⟩
set_option maxRecDepth 100000 in
theorem R_L_acts_129 {scr : Option (Nat × (Nat → Int32))} {e : Nat} {c : Nat} {A : Ab} {v1 v2 v3 v4 v5 v6 s0 : Int32} {Q : Int32 → Ab → Prop} (hc : c ≤ 400) (hw : wfA c A) (H : ∀ (x1 : Int32) (A1 : Ab), opSeal A v2 = (x1, A1) → (((¬ (s0 = 0)) → (((¬ (v5 = 0)) → (((¬ (x1 = (-4))) → (Q 0 A1)) ∧ (¬ (¬ (x1 = (-4))) → (Q 1 A1)))) ∧ (¬ (¬ (v5 = 0)) → (((v4 = 0) → (((¬ (x1 = (-4))) → (Q 0 A1)) ∧ (¬ (¬ (x1 = (-4))) → (Q 1 A1)))) ∧ (¬ (v4 = 0) → (((¬ ((((opCount (nOf A1.1.1) A1 3) >>> (11 &&& 31)) &&& 1) = 0)) → (((¬ (x1 = (v6 - 1))) → (Q 0 A1)) ∧ (¬ (¬ (x1 = (v6 - 1))) → (Q 1 A1)))) ∧ (¬ (¬ ((((opCount (nOf A1.1.1) A1 3) >>> (11 &&& 31)) &&& 1) = 0)) → (((¬ (x1 = (-4))) → (Q 0 A1)) ∧ (¬ (¬ (x1 = (-4))) → (Q 1 A1)))))))))) ∧ (¬ (¬ (s0 = 0)) → (((¬ (x1 = (-5))) → (Q 0 A1)) ∧ (¬ (¬ (x1 = (-5))) → (Q 1 A1)))))) : EA scr (e + 8) nL_acts 129 [(0, .ref 0), (1, .int v1), (2, .int v2), (3, .int v3), (4, .int v4), (5, .int v5), (6, .int v6)] [.int s0] A Q := by
  intro M h D hI
  refine ev_istore (pc1 := 131) (L1 := [(7, .int s0), (0, .ref 0), (1, .int v1), (2, .int v2), (3, .int v3), (4, .int v4), (5, .int v5), (6, .int v6)]) (by rw [ml_76]; decide) rfl (TBof tbs_76 _ rfl) rfl ?_
  refine ev_aload_n (pc1 := 132) rfl rfl (TBof tbs_76 _ rfl) rfl ?_
  refine ev_iload_n (pc1 := 133) rfl (TBof tbs_76 _ rfl) rfl ?_
  refine ev_callvI (pc1 := 136) (as := [.int v2]) (r := []) (TBof tbs_76 _ rfl) rfl (lnkof mo_76 ln_7_70) rfl na_48 ltc_0 (sh_0.trans (by rw [mo_48])) (Nat.le_of_ble_eq_true rfl) (CN_seal hw hI) (fun x1 M1 h1 D1 ⟨A1, q1, hI, hw⟩ => ?_)
  replace H := H x1 A1 q1
  refine ev_istore (pc1 := 138) (L1 := [(8, .int x1), (7, .int s0), (0, .ref 0), (1, .int v1), (2, .int v2), (3, .int v3), (4, .int v4), (5, .int v5), (6, .int v6)]) (by rw [ml_76]; decide) rfl (TBof tbs_76 _ rfl) rfl ?_
  refine ev_iload (pc1 := 140) rfl (TBof tbs_76 _ rfl) rfl ?_
  refine ev_iload (pc1 := 142) rfl (TBof tbs_76 _ rfl) rfl ?_
  refine ev_if (pc1 := 145) (t := 150) (TBof tbs_76 _ rfl) (by decide) rfl (fun c2 => ?_) (fun c2 => ?_)
  · replace H := H.1 c2
    refine ev_iload (pc1 := 152) rfl (TBof tbs_76 _ rfl) rfl ?_
    refine ev_if (pc1 := 155) (t := 173) (TBof tbs_76 _ rfl) (by decide) rfl (fun c3 => ?_) (fun c3 => ?_)
    · replace H := H.1 c3
      refine ev_bipush (pc1 := 175) (x := (-4)) (by decide) (TBof tbs_76 _ rfl) rfl ?_
      refine ev_goto (pc1 := 182) (TBof tbs_76 _ rfl) (by decide) ?_
      refine ev_icmp (pc1 := 185) (t := 189) (TBof tbs_76 _ rfl) (by decide) rfl (fun c4 => ?_) (fun c4 => ?_)
      · replace H := H.1 c4
        refine ev_iconst (pc1 := 190) (x := 0) (by decide) (TBof tbs_76 _ rfl) rfl ?_
        exact ev_ireturn (TBof tbs_76 _ rfl) (retI_z rt_76 (Or.inl rfl)) ⟨_, rfl, _, H, hI⟩
      · replace H := H.2 c4
        refine ev_iconst (pc1 := 186) (x := 1) (by decide) (TBof tbs_76 _ rfl) rfl ?_
        refine ev_goto (pc1 := 190) (TBof tbs_76 _ rfl) (by decide) ?_
        exact ev_ireturn (TBof tbs_76 _ rfl) (retI_z rt_76 (Or.inr rfl)) ⟨_, rfl, _, H, hI⟩
    · replace H := H.2 c3
      refine ev_iload (pc1 := 157) rfl (TBof tbs_76 _ rfl) rfl ?_
      refine ev_if (pc1 := 160) (t := 173) (TBof tbs_76 _ rfl) (by decide) rfl (fun c5 => ?_) (fun c5 => ?_)
      · replace H := H.1 c5
        refine ev_bipush (pc1 := 175) (x := (-4)) (by decide) (TBof tbs_76 _ rfl) rfl ?_
        refine ev_goto (pc1 := 182) (TBof tbs_76 _ rfl) (by decide) ?_
        refine ev_icmp (pc1 := 185) (t := 189) (TBof tbs_76 _ rfl) (by decide) rfl (fun c6 => ?_) (fun c6 => ?_)
        · replace H := H.1 c6
          refine ev_iconst (pc1 := 190) (x := 0) (by decide) (TBof tbs_76 _ rfl) rfl ?_
          exact ev_ireturn (TBof tbs_76 _ rfl) (retI_z rt_76 (Or.inl rfl)) ⟨_, rfl, _, H, hI⟩
        · replace H := H.2 c6
          refine ev_iconst (pc1 := 186) (x := 1) (by decide) (TBof tbs_76 _ rfl) rfl ?_
          refine ev_goto (pc1 := 190) (TBof tbs_76 _ rfl) (by decide) ?_
          exact ev_ireturn (TBof tbs_76 _ rfl) (retI_z rt_76 (Or.inr rfl)) ⟨_, rfl, _, H, hI⟩
      · replace H := H.2 c5
        refine ev_aload_n (pc1 := 161) rfl rfl (TBof tbs_76 _ rfl) rfl ?_
        refine ev_iconst (pc1 := 162) (x := 3) (by decide) (TBof tbs_76 _ rfl) rfl ?_
        refine ev_callvI (pc1 := 165) (as := [.int 3]) (r := [.int x1]) (TBof tbs_76 _ rfl) rfl (lnkof mo_76 ln_7_24) rfl na_56 ltc_0 (sh_0.trans (by rw [mo_56])) (Nat.le_of_ble_eq_true rfl) (CN_count hw hI) (fun x7 M7 h7 D7 ⟨e7, hI⟩ => ?_)
        subst e7
        refine ev_bipush (pc1 := 167) (x := 11) (by decide) (TBof tbs_76 _ rfl) rfl ?_
        refine ev_ishr (pc1 := 168) (TBof tbs_76 _ rfl) rfl ?_
        refine ev_iconst (pc1 := 169) (x := 1) (by decide) (TBof tbs_76 _ rfl) rfl ?_
        refine ev_iand (pc1 := 170) (TBof tbs_76 _ rfl) rfl ?_
        refine ev_if (pc1 := 173) (t := 178) (TBof tbs_76 _ rfl) (by decide) rfl (fun c8 => ?_) (fun c8 => ?_)
        · replace H := H.1 c8
          refine ev_iload (pc1 := 180) rfl (TBof tbs_76 _ rfl) rfl ?_
          refine ev_iconst (pc1 := 181) (x := 1) (by decide) (TBof tbs_76 _ rfl) rfl ?_
          refine ev_isub (pc1 := 182) (TBof tbs_76 _ rfl) rfl ?_
          refine ev_icmp (pc1 := 185) (t := 189) (TBof tbs_76 _ rfl) (by decide) rfl (fun c9 => ?_) (fun c9 => ?_)
          · replace H := H.1 c9
            refine ev_iconst (pc1 := 190) (x := 0) (by decide) (TBof tbs_76 _ rfl) rfl ?_
            exact ev_ireturn (TBof tbs_76 _ rfl) (retI_z rt_76 (Or.inl rfl)) ⟨_, rfl, _, H, hI⟩
          · replace H := H.2 c9
            refine ev_iconst (pc1 := 186) (x := 1) (by decide) (TBof tbs_76 _ rfl) rfl ?_
            refine ev_goto (pc1 := 190) (TBof tbs_76 _ rfl) (by decide) ?_
            exact ev_ireturn (TBof tbs_76 _ rfl) (retI_z rt_76 (Or.inr rfl)) ⟨_, rfl, _, H, hI⟩
        · replace H := H.2 c8
          refine ev_bipush (pc1 := 175) (x := (-4)) (by decide) (TBof tbs_76 _ rfl) rfl ?_
          refine ev_goto (pc1 := 182) (TBof tbs_76 _ rfl) (by decide) ?_
          refine ev_icmp (pc1 := 185) (t := 189) (TBof tbs_76 _ rfl) (by decide) rfl (fun c10 => ?_) (fun c10 => ?_)
          · replace H := H.1 c10
            refine ev_iconst (pc1 := 190) (x := 0) (by decide) (TBof tbs_76 _ rfl) rfl ?_
            exact ev_ireturn (TBof tbs_76 _ rfl) (retI_z rt_76 (Or.inl rfl)) ⟨_, rfl, _, H, hI⟩
          · replace H := H.2 c10
            refine ev_iconst (pc1 := 186) (x := 1) (by decide) (TBof tbs_76 _ rfl) rfl ?_
            refine ev_goto (pc1 := 190) (TBof tbs_76 _ rfl) (by decide) ?_
            exact ev_ireturn (TBof tbs_76 _ rfl) (retI_z rt_76 (Or.inr rfl)) ⟨_, rfl, _, H, hI⟩
  · replace H := H.2 c2
    refine ev_bipush (pc1 := 147) (x := (-5)) (by decide) (TBof tbs_76 _ rfl) rfl ?_
    refine ev_goto (pc1 := 182) (TBof tbs_76 _ rfl) (by decide) ?_
    refine ev_icmp (pc1 := 185) (t := 189) (TBof tbs_76 _ rfl) (by decide) rfl (fun c11 => ?_) (fun c11 => ?_)
    · replace H := H.1 c11
      refine ev_iconst (pc1 := 190) (x := 0) (by decide) (TBof tbs_76 _ rfl) rfl ?_
      exact ev_ireturn (TBof tbs_76 _ rfl) (retI_z rt_76 (Or.inl rfl)) ⟨_, rfl, _, H, hI⟩
    · replace H := H.2 c11
      refine ev_iconst (pc1 := 186) (x := 1) (by decide) (TBof tbs_76 _ rfl) rfl ?_
      refine ev_goto (pc1 := 190) (TBof tbs_76 _ rfl) (by decide) ?_
      exact ev_ireturn (TBof tbs_76 _ rfl) (retI_z rt_76 (Or.inr rfl)) ⟨_, rfl, _, H, hI⟩
set_option maxRecDepth 100000 in
theorem R_L_acts_210 {scr : Option (Nat × (Nat → Int32))} {e : Nat} {c : Nat} {A : Ab} {v1 v2 v3 v4 v5 s0 : Int32} {Q : Int32 → Ab → Prop} (hc : c ≤ 400) (hw : wfA c A) (H : ∀ (x1 : Int32) (A1 : Ab), opOpen A v2 = (x1, A1) → (((v5 = 0) → (((s0 = 0) → (EA scr (e + 8) nL_acts 244 [(0, .ref 0), (1, .int v1), (2, .int v2), (3, .int v3), (4, .int v4), (5, .int v5), (6, .int s0), (7, .int x1)] [.int (-4), .int x1] A1 Q)) ∧ (¬ (s0 = 0) → (EA scr (e + 8) nL_acts 244 [(0, .ref 0), (1, .int v1), (2, .int v2), (3, .int v3), (4, .int v4), (5, .int v5), (6, .int s0), (7, .int x1)] [.int (v3 + 1), .int x1] A1 Q)))) ∧ (¬ (v5 = 0) → (EA scr (e + 8) nL_acts 244 [(0, .ref 0), (1, .int v1), (2, .int v2), (3, .int v3), (4, .int v4), (5, .int v5), (6, .int s0), (7, .int x1)] [.int (-5), .int x1] A1 Q)))) : EA scr (e + 8) nL_acts 210 [(0, .ref 0), (1, .int v1), (2, .int v2), (3, .int v3), (4, .int v4), (5, .int v5)] [.int s0] A Q := by
  intro M h D hI
  refine ev_istore (pc1 := 212) (L1 := [(6, .int s0), (0, .ref 0), (1, .int v1), (2, .int v2), (3, .int v3), (4, .int v4), (5, .int v5)]) (by rw [ml_76]; decide) rfl (TBof tbs_76 _ rfl) rfl ?_
  refine ev_aload_n (pc1 := 213) rfl rfl (TBof tbs_76 _ rfl) rfl ?_
  refine ev_iload_n (pc1 := 214) rfl (TBof tbs_76 _ rfl) rfl ?_
  refine ev_callvI (pc1 := 217) (as := [.int v2]) (r := []) (TBof tbs_76 _ rfl) rfl (lnkof mo_76 ln_7_37) rfl na_44 ltc_0 (sh_0.trans (by rw [mo_44])) (Nat.le_of_ble_eq_true rfl) (CN_open hw hI) (fun x1 M1 h1 D1 ⟨A1, q1, hI, hw⟩ => ?_)
  replace H := H x1 A1 q1
  refine ev_istore (pc1 := 219) (L1 := [(7, .int x1), (6, .int s0), (0, .ref 0), (1, .int v1), (2, .int v2), (3, .int v3), (4, .int v4), (5, .int v5)]) (by rw [ml_76]; decide) rfl (TBof tbs_76 _ rfl) rfl ?_
  refine ev_iload (pc1 := 221) rfl (TBof tbs_76 _ rfl) rfl ?_
  refine ev_iload (pc1 := 223) rfl (TBof tbs_76 _ rfl) rfl ?_
  refine ev_if (pc1 := 226) (t := 231) (TBof tbs_76 _ rfl) (by decide) rfl (fun c2 => ?_) (fun c2 => ?_)
  · replace H := H.1 c2
    refine ev_iload (pc1 := 233) rfl (TBof tbs_76 _ rfl) rfl ?_
    refine ev_if (pc1 := 236) (t := 242) (TBof tbs_76 _ rfl) (by decide) rfl (fun c3 => ?_) (fun c3 => ?_)
    · replace H := H.1 c3
      refine ev_bipush (pc1 := 244) (x := (-4)) (by decide) (TBof tbs_76 _ rfl) rfl ?_
      exact ev_le [2, 3, 4, 5, 6, 7, 1, 0] rfl rfl (H _ _ _ hI)
    · replace H := H.2 c3
      refine ev_iload_n (pc1 := 237) rfl (TBof tbs_76 _ rfl) rfl ?_
      refine ev_iconst (pc1 := 238) (x := 1) (by decide) (TBof tbs_76 _ rfl) rfl ?_
      refine ev_iadd (pc1 := 239) (TBof tbs_76 _ rfl) rfl ?_
      refine ev_goto (pc1 := 244) (TBof tbs_76 _ rfl) (by decide) ?_
      exact ev_le [2, 3, 4, 5, 6, 7, 1, 0] rfl rfl (H _ _ _ hI)
  · replace H := H.2 c2
    refine ev_bipush (pc1 := 228) (x := (-5)) (by decide) (TBof tbs_76 _ rfl) rfl ?_
    refine ev_goto (pc1 := 244) (TBof tbs_76 _ rfl) (by decide) ?_
    exact ev_le [2, 3, 4, 5, 6, 7, 1, 0] rfl rfl (H _ _ _ hI)
set_option maxRecDepth 100000 in
theorem R_L_acts_244 {scr : Option (Nat × (Nat → Int32))} {e : Nat} {c : Nat} {A : Ab} {v1 v2 v3 v4 v5 v6 v7 s0 s1 : Int32} {Q : Int32 → Ab → Prop} (hc : c ≤ 400) (hw : wfA c A) (H : ((¬ (s1 = s0)) → (Q 0 A)) ∧ (¬ (¬ (s1 = s0)) → (((v7 < 0) → (Q 1 A)) ∧ (¬ (v7 < 0) → (((¬ ((opDrawer A.1.1 v2 1) = 3)) → (Q 1 A)) ∧ (¬ (¬ ((opDrawer A.1.1 v2 1) = 3)) → (((¬ ((opDrawer A.1.1 v2 7) = 1)) → (Q 0 A)) ∧ (¬ (¬ ((opDrawer A.1.1 v2 7) = 1)) → (Q 1 A))))))))) : EA scr (e + 8) nL_acts 244 [(0, .ref 0), (1, .int v1), (2, .int v2), (3, .int v3), (4, .int v4), (5, .int v5), (6, .int v6), (7, .int v7)] [.int s0, .int s1] A Q := by
  intro M h D hI
  refine ev_icmp (pc1 := 247) (t := 277) (TBof tbs_76 _ rfl) (by decide) rfl (fun c1 => ?_) (fun c1 => ?_)
  · replace H := H.1 c1
    refine ev_iconst (pc1 := 278) (x := 0) (by decide) (TBof tbs_76 _ rfl) rfl ?_
    exact ev_ireturn (TBof tbs_76 _ rfl) (retI_z rt_76 (Or.inl rfl)) ⟨_, rfl, _, H, hI⟩
  · replace H := H.2 c1
    refine ev_iload (pc1 := 249) rfl (TBof tbs_76 _ rfl) rfl ?_
    refine ev_if (pc1 := 252) (t := 273) (TBof tbs_76 _ rfl) (by decide) rfl (fun c2 => ?_) (fun c2 => ?_)
    · replace H := H.1 c2
      refine ev_iconst (pc1 := 274) (x := 1) (by decide) (TBof tbs_76 _ rfl) rfl ?_
      refine ev_goto (pc1 := 278) (TBof tbs_76 _ rfl) (by decide) ?_
      exact ev_ireturn (TBof tbs_76 _ rfl) (retI_z rt_76 (Or.inr rfl)) ⟨_, rfl, _, H, hI⟩
    · replace H := H.2 c2
      refine ev_aload_n (pc1 := 253) rfl rfl (TBof tbs_76 _ rfl) rfl ?_
      refine ev_iload_n (pc1 := 254) rfl (TBof tbs_76 _ rfl) rfl ?_
      refine ev_iconst (pc1 := 255) (x := 1) (by decide) (TBof tbs_76 _ rfl) rfl ?_
      refine ev_callvI (pc1 := 258) (as := [.int v2, .int 1]) (r := []) (TBof tbs_76 _ rfl) rfl (lnkof mo_76 ln_7_27) rfl na_50 ltc_0 (sh_0.trans (by rw [mo_50])) (Nat.le_of_ble_eq_true rfl) (CN_drawer hw hI) (fun x3 M3 h3 D3 ⟨e3, hI⟩ => ?_)
      subst e3
      refine ev_iconst (pc1 := 259) (x := 3) (by decide) (TBof tbs_76 _ rfl) rfl ?_
      refine ev_icmp (pc1 := 262) (t := 273) (TBof tbs_76 _ rfl) (by decide) rfl (fun c4 => ?_) (fun c4 => ?_)
      · replace H := H.1 c4
        refine ev_iconst (pc1 := 274) (x := 1) (by decide) (TBof tbs_76 _ rfl) rfl ?_
        refine ev_goto (pc1 := 278) (TBof tbs_76 _ rfl) (by decide) ?_
        exact ev_ireturn (TBof tbs_76 _ rfl) (retI_z rt_76 (Or.inr rfl)) ⟨_, rfl, _, H, hI⟩
      · replace H := H.2 c4
        refine ev_aload_n (pc1 := 263) rfl rfl (TBof tbs_76 _ rfl) rfl ?_
        refine ev_iload_n (pc1 := 264) rfl (TBof tbs_76 _ rfl) rfl ?_
        refine ev_bipush (pc1 := 266) (x := 7) (by decide) (TBof tbs_76 _ rfl) rfl ?_
        refine ev_callvI (pc1 := 269) (as := [.int v2, .int 7]) (r := []) (TBof tbs_76 _ rfl) rfl (lnkof mo_76 ln_7_27) rfl na_50 ltc_0 (sh_0.trans (by rw [mo_50])) (Nat.le_of_ble_eq_true rfl) (CN_drawer hw hI) (fun x5 M5 h5 D5 ⟨e5, hI⟩ => ?_)
        subst e5
        refine ev_iconst (pc1 := 270) (x := 1) (by decide) (TBof tbs_76 _ rfl) rfl ?_
        refine ev_icmp (pc1 := 273) (t := 277) (TBof tbs_76 _ rfl) (by decide) rfl (fun c6 => ?_) (fun c6 => ?_)
        · replace H := H.1 c6
          refine ev_iconst (pc1 := 278) (x := 0) (by decide) (TBof tbs_76 _ rfl) rfl ?_
          exact ev_ireturn (TBof tbs_76 _ rfl) (retI_z rt_76 (Or.inl rfl)) ⟨_, rfl, _, H, hI⟩
        · replace H := H.2 c6
          refine ev_iconst (pc1 := 274) (x := 1) (by decide) (TBof tbs_76 _ rfl) rfl ?_
          refine ev_goto (pc1 := 278) (TBof tbs_76 _ rfl) (by decide) ?_
          exact ev_ireturn (TBof tbs_76 _ rfl) (retI_z rt_76 (Or.inr rfl)) ⟨_, rfl, _, H, hI⟩

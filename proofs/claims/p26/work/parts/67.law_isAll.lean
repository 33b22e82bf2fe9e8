/-! what each block of the law asks: isAll -/
set_option maxRecDepth 100000 in
theorem R_L_isAll_0 {scr : Option (Nat × (Nat → Int32))} {e : Nat} {c : Nat} {A : Ab} {Q : Int32 → Ab → Prop} (hc : c ≤ 400) (hw : wfA c A) (H : EA scr (e + 8) nL_isAll 15 [(0, .ref 0), (1, .int 0), (2, .int 0), (3, .int 0), (4, .int 0), (5, .int 1), (6, .int 0)] [] A Q) : EA scr (e + 8) nL_isAll 0 [(0, .ref 0)] [] A Q := by
  intro M h D hI
  refine ev_iconst (pc1 := 1) (x := 0) (by decide) (TBof tbs_75 _ rfl) rfl ?_
  refine ev_istore_n (pc1 := 2) (L1 := [(1, .int 0), (0, .ref 0)]) (by rw [ml_75]; decide) rfl (TBof tbs_75 _ rfl) rfl ?_
  refine ev_iconst (pc1 := 3) (x := 0) (by decide) (TBof tbs_75 _ rfl) rfl ?_
  refine ev_istore_n (pc1 := 4) (L1 := [(2, .int 0), (1, .int 0), (0, .ref 0)]) (by rw [ml_75]; decide) rfl (TBof tbs_75 _ rfl) rfl ?_
  refine ev_iconst (pc1 := 5) (x := 0) (by decide) (TBof tbs_75 _ rfl) rfl ?_
  refine ev_istore_n (pc1 := 6) (L1 := [(3, .int 0), (2, .int 0), (1, .int 0), (0, .ref 0)]) (by rw [ml_75]; decide) rfl (TBof tbs_75 _ rfl) rfl ?_
  refine ev_iconst (pc1 := 7) (x := 0) (by decide) (TBof tbs_75 _ rfl) rfl ?_
  refine ev_istore (pc1 := 9) (L1 := [(4, .int 0), (3, .int 0), (2, .int 0), (1, .int 0), (0, .ref 0)]) (by rw [ml_75]; decide) rfl (TBof tbs_75 _ rfl) rfl ?_
  refine ev_iconst (pc1 := 10) (x := 1) (by decide) (TBof tbs_75 _ rfl) rfl ?_
  refine ev_istore (pc1 := 12) (L1 := [(5, .int 1), (4, .int 0), (3, .int 0), (2, .int 0), (1, .int 0), (0, .ref 0)]) (by rw [ml_75]; decide) rfl (TBof tbs_75 _ rfl) rfl ?_
  refine ev_iconst (pc1 := 13) (x := 0) (by decide) (TBof tbs_75 _ rfl) rfl ?_
  refine ev_istore (pc1 := 15) (L1 := [(6, .int 0), (5, .int 1), (4, .int 0), (3, .int 0), (2, .int 0), (1, .int 0), (0, .ref 0)]) (by rw [ml_75]; decide) rfl (TBof tbs_75 _ rfl) rfl ?_
  exact ev_le [6, 5, 4, 3, 2, 1, 0] rfl rfl (H _ _ _ hI)
set_option maxRecDepth 100000 in
theorem R_L_isAll_15 {scr : Option (Nat × (Nat → Int32))} {e : Nat} {c : Nat} {A : Ab} {v1 v2 v3 v4 v5 v6 : Int32} {Q : Int32 → Ab → Prop} (hc : c ≤ 400) (hw : wfA c A) (H : (((opCount (nOf A.1.1) A 0) ≤ v6) → (EA scr (e + 8) nL_isAll 213 [(0, .ref 0), (1, .int v1), (2, .int v2), (3, .int v3), (4, .int v4), (5, .int v5), (6, .int 0)] [] A Q)) ∧ (¬ ((opCount (nOf A.1.1) A 0) ≤ v6) → (((v5 = 0) → (EA scr (e + 8) nL_isAll 213 [(0, .ref 0), (1, .int v1), (2, .int v2), (3, .int v3), (4, .int v4), (5, .int v5), (6, .int 0)] [] A Q)) ∧ (¬ (v5 = 0) → (((¬ ((opDrawer A.1.1 v6 0) = (-5))) → (EA scr (e + 8) nL_isAll 108 [(0, .ref 0), (1, .int (v1 + (opDrawer A.1.1 v6 6))), (2, .int (v2 + (opDrawer A.1.1 v6 7))), (3, .int (v3 + (opDrawer A.1.1 v6 9))), (4, .int v4), (5, .int v5), (6, .int v6), (7, .int (opDrawer A.1.1 v6 0))] [.int ((opDrawer A.1.1 (opDrawer A.1.1 v6 0) 6) * (opDrawer A.1.1 (opDrawer A.1.1 v6 0) 8)), .int (opDrawer A.1.1 v6 8)] A Q)) ∧ (¬ (¬ ((opDrawer A.1.1 v6 0) = (-5))) → (EA scr (e + 8) nL_isAll 108 [(0, .ref 0), (1, .int (v1 + (opDrawer A.1.1 v6 6))), (2, .int (v2 + (opDrawer A.1.1 v6 7))), (3, .int (v3 + (opDrawer A.1.1 v6 9))), (4, .int v4), (5, .int v5), (6, .int v6), (7, .int (opDrawer A.1.1 v6 0))] [.int 1, .int (opDrawer A.1.1 v6 8)] A Q))))))) : EA scr (e + 8) nL_isAll 15 [(0, .ref 0), (1, .int v1), (2, .int v2), (3, .int v3), (4, .int v4), (5, .int v5), (6, .int v6)] [] A Q := by
  intro M h D hI
  refine ev_iload (pc1 := 17) rfl (TBof tbs_75 _ rfl) rfl ?_
  refine ev_aload_n (pc1 := 18) rfl rfl (TBof tbs_75 _ rfl) rfl ?_
  refine ev_iconst (pc1 := 19) (x := 0) (by decide) (TBof tbs_75 _ rfl) rfl ?_
  refine ev_callvI (pc1 := 22) (as := [.int 0]) (r := [.int v6]) (TBof tbs_75 _ rfl) rfl (lnkof mo_75 ln_7_24) rfl na_56 ltc_0 (sh_0.trans (by rw [mo_56])) (Nat.le_of_ble_eq_true rfl) (CN_count hw hI) (fun x1 M1 h1 D1 ⟨e1, hI⟩ => ?_)
  subst e1
  refine ev_icmp (pc1 := 25) (t := 210) (TBof tbs_75 _ rfl) (by decide) rfl (fun c2 => ?_) (fun c2 => ?_)
  · replace H := H.1 c2
    refine ev_iconst (pc1 := 211) (x := 0) (by decide) (TBof tbs_75 _ rfl) rfl ?_
    refine ev_istore (pc1 := 213) (L1 := [(6, .int 0), (0, .ref 0), (1, .int v1), (2, .int v2), (3, .int v3), (4, .int v4), (5, .int v5)]) (by rw [ml_75]; decide) rfl (TBof tbs_75 _ rfl) rfl ?_
    exact ev_le [1, 2, 3, 4, 5, 6, 0] rfl rfl (H _ _ _ hI)
  · replace H := H.2 c2
    refine ev_iload (pc1 := 27) rfl (TBof tbs_75 _ rfl) rfl ?_
    refine ev_if (pc1 := 30) (t := 210) (TBof tbs_75 _ rfl) (by decide) rfl (fun c3 => ?_) (fun c3 => ?_)
    · replace H := H.1 c3
      refine ev_iconst (pc1 := 211) (x := 0) (by decide) (TBof tbs_75 _ rfl) rfl ?_
      refine ev_istore (pc1 := 213) (L1 := [(6, .int 0), (0, .ref 0), (1, .int v1), (2, .int v2), (3, .int v3), (4, .int v4), (5, .int v5)]) (by rw [ml_75]; decide) rfl (TBof tbs_75 _ rfl) rfl ?_
      exact ev_le [1, 2, 3, 4, 5, 6, 0] rfl rfl (H _ _ _ hI)
    · replace H := H.2 c3
      refine ev_iload_n (pc1 := 31) rfl (TBof tbs_75 _ rfl) rfl ?_
      refine ev_aload_n (pc1 := 32) rfl rfl (TBof tbs_75 _ rfl) rfl ?_
      refine ev_iload (pc1 := 34) rfl (TBof tbs_75 _ rfl) rfl ?_
      refine ev_bipush (pc1 := 36) (x := 6) (by decide) (TBof tbs_75 _ rfl) rfl ?_
      refine ev_callvI (pc1 := 39) (as := [.int v6, .int 6]) (r := [.int v1]) (TBof tbs_75 _ rfl) rfl (lnkof mo_75 ln_7_27) rfl na_50 ltc_0 (sh_0.trans (by rw [mo_50])) (Nat.le_of_ble_eq_true rfl) (CN_drawer hw hI) (fun x4 M4 h4 D4 ⟨e4, hI⟩ => ?_)
      subst e4
      refine ev_iadd (pc1 := 40) (TBof tbs_75 _ rfl) rfl ?_
      refine ev_istore_n (pc1 := 41) (L1 := [(1, .int (v1 + (opDrawer A.1.1 v6 6))), (0, .ref 0), (2, .int v2), (3, .int v3), (4, .int v4), (5, .int v5), (6, .int v6)]) (by rw [ml_75]; decide) rfl (TBof tbs_75 _ rfl) rfl ?_
      refine ev_iload_n (pc1 := 42) rfl (TBof tbs_75 _ rfl) rfl ?_
      refine ev_aload_n (pc1 := 43) rfl rfl (TBof tbs_75 _ rfl) rfl ?_
      refine ev_iload (pc1 := 45) rfl (TBof tbs_75 _ rfl) rfl ?_
      refine ev_bipush (pc1 := 47) (x := 7) (by decide) (TBof tbs_75 _ rfl) rfl ?_
      refine ev_callvI (pc1 := 50) (as := [.int v6, .int 7]) (r := [.int v2]) (TBof tbs_75 _ rfl) rfl (lnkof mo_75 ln_7_27) rfl na_50 ltc_0 (sh_0.trans (by rw [mo_50])) (Nat.le_of_ble_eq_true rfl) (CN_drawer hw hI) (fun x5 M5 h5 D5 ⟨e5, hI⟩ => ?_)
      subst e5
      refine ev_iadd (pc1 := 51) (TBof tbs_75 _ rfl) rfl ?_
      refine ev_istore_n (pc1 := 52) (L1 := [(2, .int (v2 + (opDrawer A.1.1 v6 7))), (1, .int (v1 + (opDrawer A.1.1 v6 6))), (0, .ref 0), (3, .int v3), (4, .int v4), (5, .int v5), (6, .int v6)]) (by rw [ml_75]; decide) rfl (TBof tbs_75 _ rfl) rfl ?_
      refine ev_iload_n (pc1 := 53) rfl (TBof tbs_75 _ rfl) rfl ?_
      refine ev_aload_n (pc1 := 54) rfl rfl (TBof tbs_75 _ rfl) rfl ?_
      refine ev_iload (pc1 := 56) rfl (TBof tbs_75 _ rfl) rfl ?_
      refine ev_bipush (pc1 := 58) (x := 9) (by decide) (TBof tbs_75 _ rfl) rfl ?_
      refine ev_callvI (pc1 := 61) (as := [.int v6, .int 9]) (r := [.int v3]) (TBof tbs_75 _ rfl) rfl (lnkof mo_75 ln_7_27) rfl na_50 ltc_0 (sh_0.trans (by rw [mo_50])) (Nat.le_of_ble_eq_true rfl) (CN_drawer hw hI) (fun x6 M6 h6 D6 ⟨e6, hI⟩ => ?_)
      subst e6
      refine ev_iadd (pc1 := 62) (TBof tbs_75 _ rfl) rfl ?_
      refine ev_istore_n (pc1 := 63) (L1 := [(3, .int (v3 + (opDrawer A.1.1 v6 9))), (2, .int (v2 + (opDrawer A.1.1 v6 7))), (1, .int (v1 + (opDrawer A.1.1 v6 6))), (0, .ref 0), (4, .int v4), (5, .int v5), (6, .int v6)]) (by rw [ml_75]; decide) rfl (TBof tbs_75 _ rfl) rfl ?_
      refine ev_aload_n (pc1 := 64) rfl rfl (TBof tbs_75 _ rfl) rfl ?_
      refine ev_iload (pc1 := 66) rfl (TBof tbs_75 _ rfl) rfl ?_
      refine ev_iconst (pc1 := 67) (x := 0) (by decide) (TBof tbs_75 _ rfl) rfl ?_
      refine ev_callvI (pc1 := 70) (as := [.int v6, .int 0]) (r := []) (TBof tbs_75 _ rfl) rfl (lnkof mo_75 ln_7_27) rfl na_50 ltc_0 (sh_0.trans (by rw [mo_50])) (Nat.le_of_ble_eq_true rfl) (CN_drawer hw hI) (fun x7 M7 h7 D7 ⟨e7, hI⟩ => ?_)
      subst e7
      refine ev_istore (pc1 := 72) (L1 := [(7, .int (opDrawer A.1.1 v6 0)), (3, .int (v3 + (opDrawer A.1.1 v6 9))), (2, .int (v2 + (opDrawer A.1.1 v6 7))), (1, .int (v1 + (opDrawer A.1.1 v6 6))), (0, .ref 0), (4, .int v4), (5, .int v5), (6, .int v6)]) (by rw [ml_75]; decide) rfl (TBof tbs_75 _ rfl) rfl ?_
      refine ev_aload_n (pc1 := 73) rfl rfl (TBof tbs_75 _ rfl) rfl ?_
      refine ev_iload (pc1 := 75) rfl (TBof tbs_75 _ rfl) rfl ?_
      refine ev_bipush (pc1 := 77) (x := 8) (by decide) (TBof tbs_75 _ rfl) rfl ?_
      refine ev_callvI (pc1 := 80) (as := [.int v6, .int 8]) (r := []) (TBof tbs_75 _ rfl) rfl (lnkof mo_75 ln_7_27) rfl na_50 ltc_0 (sh_0.trans (by rw [mo_50])) (Nat.le_of_ble_eq_true rfl) (CN_drawer hw hI) (fun x8 M8 h8 D8 ⟨e8, hI⟩ => ?_)
      subst e8
      refine ev_iload (pc1 := 82) rfl (TBof tbs_75 _ rfl) rfl ?_
      refine ev_bipush (pc1 := 84) (x := (-5)) (by decide) (TBof tbs_75 _ rfl) rfl ?_
      refine ev_icmp (pc1 := 87) (t := 91) (TBof tbs_75 _ rfl) (by decide) rfl (fun c9 => ?_) (fun c9 => ?_)
      · replace H := H.1 c9
        refine ev_aload_n (pc1 := 92) rfl rfl (TBof tbs_75 _ rfl) rfl ?_
        refine ev_iload (pc1 := 94) rfl (TBof tbs_75 _ rfl) rfl ?_
        refine ev_bipush (pc1 := 96) (x := 6) (by decide) (TBof tbs_75 _ rfl) rfl ?_
        refine ev_callvI (pc1 := 99) (as := [.int (opDrawer A.1.1 v6 0), .int 6]) (r := [.int (opDrawer A.1.1 v6 8)]) (TBof tbs_75 _ rfl) rfl (lnkof mo_75 ln_7_27) rfl na_50 ltc_0 (sh_0.trans (by rw [mo_50])) (Nat.le_of_ble_eq_true rfl) (CN_drawer hw hI) (fun x10 M10 h10 D10 ⟨e10, hI⟩ => ?_)
        subst e10
        refine ev_aload_n (pc1 := 100) rfl rfl (TBof tbs_75 _ rfl) rfl ?_
        refine ev_iload (pc1 := 102) rfl (TBof tbs_75 _ rfl) rfl ?_
        refine ev_bipush (pc1 := 104) (x := 8) (by decide) (TBof tbs_75 _ rfl) rfl ?_
        refine ev_callvI (pc1 := 107) (as := [.int (opDrawer A.1.1 v6 0), .int 8]) (r := [.int (opDrawer A.1.1 (opDrawer A.1.1 v6 0) 6), .int (opDrawer A.1.1 v6 8)]) (TBof tbs_75 _ rfl) rfl (lnkof mo_75 ln_7_27) rfl na_50 ltc_0 (sh_0.trans (by rw [mo_50])) (Nat.le_of_ble_eq_true rfl) (CN_drawer hw hI) (fun x11 M11 h11 D11 ⟨e11, hI⟩ => ?_)
        subst e11
        refine ev_imul (pc1 := 108) (TBof tbs_75 _ rfl) rfl ?_
        exact ev_le [4, 3, 2, 1, 5, 6, 7, 0] rfl rfl (H _ _ _ hI)
      · replace H := H.2 c9
        refine ev_iconst (pc1 := 88) (x := 1) (by decide) (TBof tbs_75 _ rfl) rfl ?_
        refine ev_goto (pc1 := 108) (TBof tbs_75 _ rfl) (by decide) ?_
        exact ev_le [4, 3, 2, 1, 5, 6, 7, 0] rfl rfl (H _ _ _ hI)
set_option maxRecDepth 100000 in
theorem R_L_isAll_108 {scr : Option (Nat × (Nat → Int32))} {e : Nat} {c : Nat} {A : Ab} {v1 v2 v3 v4 v5 v6 v7 s0 s1 : Int32} {Q : Int32 → Ab → Prop} (hc : c ≤ 400) (hw : wfA c A) (H : ((¬ (s1 = s0)) → (EA scr (e + 8) nL_isAll 15 [(0, .ref 0), (1, .int v1), (2, .int v2), (3, .int v3), (4, .int v4), (5, .int 0), (6, .int (v6 + 1))] [] A Q)) ∧ (¬ (¬ (s1 = s0)) → (((¬ (v7 = (-5))) → (EA scr (e + 8) nL_isAll 140 [(0, .ref 0), (1, .int v1), (2, .int v2), (3, .int v3), (4, .int v4), (5, .int v5), (6, .int v6), (7, .int v7)] [.int (1 + (opDrawer A.1.1 v7 10)), .int (opDrawer A.1.1 v6 10)] A Q)) ∧ (¬ (¬ (v7 = (-5))) → (EA scr (e + 8) nL_isAll 140 [(0, .ref 0), (1, .int v1), (2, .int v2), (3, .int v3), (4, .int v4), (5, .int v5), (6, .int v6), (7, .int v7)] [.int 0, .int (opDrawer A.1.1 v6 10)] A Q))))) : EA scr (e + 8) nL_isAll 108 [(0, .ref 0), (1, .int v1), (2, .int v2), (3, .int v3), (4, .int v4), (5, .int v5), (6, .int v6), (7, .int v7)] [.int s0, .int s1] A Q := by
  intro M h D hI
  refine ev_icmp (pc1 := 111) (t := 201) (TBof tbs_75 _ rfl) (by decide) rfl (fun c1 => ?_) (fun c1 => ?_)
  · replace H := H.1 c1
    refine ev_iconst (pc1 := 202) (x := 0) (by decide) (TBof tbs_75 _ rfl) rfl ?_
    refine ev_istore (pc1 := 204) (L1 := [(5, .int 0), (0, .ref 0), (1, .int v1), (2, .int v2), (3, .int v3), (4, .int v4), (6, .int v6), (7, .int v7)]) (by rw [ml_75]; decide) rfl (TBof tbs_75 _ rfl) rfl ?_
    refine ev_iinc (pc1 := 207) (n := 6) (c := 1) (x := v6) (cc := 1) (L1 := [(6, .int (v6 + 1)), (5, .int 0), (0, .ref 0), (1, .int v1), (2, .int v2), (3, .int v3), (4, .int v4), (7, .int v7)]) rfl (by rw [ml_75]; decide) (by decide) rfl (TBof tbs_75 _ rfl) rfl ?_
    refine ev_goto (pc1 := 15) (TBof tbs_75 _ rfl) (by decide) ?_
    exact ev_le [2, 3, 4, 5, 6, 1, 0] rfl rfl (H _ _ _ hI)
  · replace H := H.2 c1
    refine ev_aload_n (pc1 := 112) rfl rfl (TBof tbs_75 _ rfl) rfl ?_
    refine ev_iload (pc1 := 114) rfl (TBof tbs_75 _ rfl) rfl ?_
    refine ev_bipush (pc1 := 116) (x := 10) (by decide) (TBof tbs_75 _ rfl) rfl ?_
    refine ev_callvI (pc1 := 119) (as := [.int v6, .int 10]) (r := []) (TBof tbs_75 _ rfl) rfl (lnkof mo_75 ln_7_27) rfl na_50 ltc_0 (sh_0.trans (by rw [mo_50])) (Nat.le_of_ble_eq_true rfl) (CN_drawer hw hI) (fun x2 M2 h2 D2 ⟨e2, hI⟩ => ?_)
    subst e2
    refine ev_iload (pc1 := 121) rfl (TBof tbs_75 _ rfl) rfl ?_
    refine ev_bipush (pc1 := 123) (x := (-5)) (by decide) (TBof tbs_75 _ rfl) rfl ?_
    refine ev_icmp (pc1 := 126) (t := 130) (TBof tbs_75 _ rfl) (by decide) rfl (fun c3 => ?_) (fun c3 => ?_)
    · replace H := H.1 c3
      refine ev_iconst (pc1 := 131) (x := 1) (by decide) (TBof tbs_75 _ rfl) rfl ?_
      refine ev_aload_n (pc1 := 132) rfl rfl (TBof tbs_75 _ rfl) rfl ?_
      refine ev_iload (pc1 := 134) rfl (TBof tbs_75 _ rfl) rfl ?_
      refine ev_bipush (pc1 := 136) (x := 10) (by decide) (TBof tbs_75 _ rfl) rfl ?_
      refine ev_callvI (pc1 := 139) (as := [.int v7, .int 10]) (r := [.int 1, .int (opDrawer A.1.1 v6 10)]) (TBof tbs_75 _ rfl) rfl (lnkof mo_75 ln_7_27) rfl na_50 ltc_0 (sh_0.trans (by rw [mo_50])) (Nat.le_of_ble_eq_true rfl) (CN_drawer hw hI) (fun x4 M4 h4 D4 ⟨e4, hI⟩ => ?_)
      subst e4
      refine ev_iadd (pc1 := 140) (TBof tbs_75 _ rfl) rfl ?_
      exact ev_le [0, 1, 2, 3, 4, 5, 6, 7] rfl rfl (H _ _ _ hI)
    · replace H := H.2 c3
      refine ev_iconst (pc1 := 127) (x := 0) (by decide) (TBof tbs_75 _ rfl) rfl ?_
      refine ev_goto (pc1 := 140) (TBof tbs_75 _ rfl) (by decide) ?_
      exact ev_le [0, 1, 2, 3, 4, 5, 6, 7] rfl rfl (H _ _ _ hI)
set_option maxRecDepth 100000 in
theorem R_L_isAll_140 {scr : Option (Nat × (Nat → Int32))} {e : Nat} {c : Nat} {A : Ab} {v1 v2 v3 v4 v5 v6 v7 s0 s1 : Int32} {Q : Int32 → Ab → Prop} (hc : c ≤ 400) (hw : wfA c A) (H : ((¬ (s1 = s0)) → (EA scr (e + 8) nL_isAll 15 [(0, .ref 0), (1, .int v1), (2, .int v2), (3, .int v3), (4, .int v4), (5, .int 0), (6, .int (v6 + 1))] [] A Q)) ∧ (¬ (¬ (s1 = s0)) → ((((opDrawer A.1.1 v6 4) < (opDrawer A.1.1 v6 5)) → (EA scr (e + 8) nL_isAll 15 [(0, .ref 0), (1, .int v1), (2, .int v2), (3, .int v3), (4, .int v4), (5, .int 0), (6, .int (v6 + 1))] [] A Q)) ∧ (¬ ((opDrawer A.1.1 v6 4) < (opDrawer A.1.1 v6 5)) → ((((((opCount (nOf A.1.1) A 8) >>> (v6 &&& 31)) &&& 1) = 0) → (EA scr (e + 8) nL_isAll 15 [(0, .ref 0), (1, .int v1), (2, .int v2), (3, .int v3), (4, .int v4), (5, .int 1), (6, .int (v6 + 1))] [] A Q)) ∧ (¬ ((((opCount (nOf A.1.1) A 8) >>> (v6 &&& 31)) &&& 1) = 0) → (((¬ ((opDrawer A.1.1 v6 6) = 0)) → (EA scr (e + 8) nL_isAll 15 [(0, .ref 0), (1, .int v1), (2, .int v2), (3, .int v3), (4, .int v4), (5, .int 0), (6, .int (v6 + 1))] [] A Q)) ∧ (¬ (¬ ((opDrawer A.1.1 v6 6) = 0)) → (((¬ ((opDrawer A.1.1 v6 8) = 1)) → (EA scr (e + 8) nL_isAll 15 [(0, .ref 0), (1, .int v1), (2, .int v2), (3, .int v3), (4, .int v4), (5, .int 0), (6, .int (v6 + 1))] [] A Q)) ∧ (¬ (¬ ((opDrawer A.1.1 v6 8) = 1)) → (EA scr (e + 8) nL_isAll 15 [(0, .ref 0), (1, .int v1), (2, .int v2), (3, .int v3), (4, .int v4), (5, .int 1), (6, .int (v6 + 1))] [] A Q))))))))))) : EA scr (e + 8) nL_isAll 140 [(0, .ref 0), (1, .int v1), (2, .int v2), (3, .int v3), (4, .int v4), (5, .int v5), (6, .int v6), (7, .int v7)] [.int s0, .int s1] A Q := by
  intro M h D hI
  refine ev_icmp (pc1 := 143) (t := 201) (TBof tbs_75 _ rfl) (by decide) rfl (fun c1 => ?_) (fun c1 => ?_)
  · replace H := H.1 c1
    refine ev_iconst (pc1 := 202) (x := 0) (by decide) (TBof tbs_75 _ rfl) rfl ?_
    refine ev_istore (pc1 := 204) (L1 := [(5, .int 0), (0, .ref 0), (1, .int v1), (2, .int v2), (3, .int v3), (4, .int v4), (6, .int v6), (7, .int v7)]) (by rw [ml_75]; decide) rfl (TBof tbs_75 _ rfl) rfl ?_
    refine ev_iinc (pc1 := 207) (n := 6) (c := 1) (x := v6) (cc := 1) (L1 := [(6, .int (v6 + 1)), (5, .int 0), (0, .ref 0), (1, .int v1), (2, .int v2), (3, .int v3), (4, .int v4), (7, .int v7)]) rfl (by rw [ml_75]; decide) (by decide) rfl (TBof tbs_75 _ rfl) rfl ?_
    refine ev_goto (pc1 := 15) (TBof tbs_75 _ rfl) (by decide) ?_
    exact ev_le [2, 3, 4, 5, 6, 1, 0] rfl rfl (H _ _ _ hI)
  · replace H := H.2 c1
    refine ev_aload_n (pc1 := 144) rfl rfl (TBof tbs_75 _ rfl) rfl ?_
    refine ev_iload (pc1 := 146) rfl (TBof tbs_75 _ rfl) rfl ?_
    refine ev_iconst (pc1 := 147) (x := 5) (by decide) (TBof tbs_75 _ rfl) rfl ?_
    refine ev_callvI (pc1 := 150) (as := [.int v6, .int 5]) (r := []) (TBof tbs_75 _ rfl) rfl (lnkof mo_75 ln_7_27) rfl na_50 ltc_0 (sh_0.trans (by rw [mo_50])) (Nat.le_of_ble_eq_true rfl) (CN_drawer hw hI) (fun x2 M2 h2 D2 ⟨e2, hI⟩ => ?_)
    subst e2
    refine ev_aload_n (pc1 := 151) rfl rfl (TBof tbs_75 _ rfl) rfl ?_
    refine ev_iload (pc1 := 153) rfl (TBof tbs_75 _ rfl) rfl ?_
    refine ev_iconst (pc1 := 154) (x := 4) (by decide) (TBof tbs_75 _ rfl) rfl ?_
    refine ev_callvI (pc1 := 157) (as := [.int v6, .int 4]) (r := [.int (opDrawer A.1.1 v6 5)]) (TBof tbs_75 _ rfl) rfl (lnkof mo_75 ln_7_27) rfl na_50 ltc_0 (sh_0.trans (by rw [mo_50])) (Nat.le_of_ble_eq_true rfl) (CN_drawer hw hI) (fun x3 M3 h3 D3 ⟨e3, hI⟩ => ?_)
    subst e3
    refine ev_icmp (pc1 := 160) (t := 201) (TBof tbs_75 _ rfl) (by decide) rfl (fun c4 => ?_) (fun c4 => ?_)
    · replace H := H.1 c4
      refine ev_iconst (pc1 := 202) (x := 0) (by decide) (TBof tbs_75 _ rfl) rfl ?_
      refine ev_istore (pc1 := 204) (L1 := [(5, .int 0), (0, .ref 0), (1, .int v1), (2, .int v2), (3, .int v3), (4, .int v4), (6, .int v6), (7, .int v7)]) (by rw [ml_75]; decide) rfl (TBof tbs_75 _ rfl) rfl ?_
      refine ev_iinc (pc1 := 207) (n := 6) (c := 1) (x := v6) (cc := 1) (L1 := [(6, .int (v6 + 1)), (5, .int 0), (0, .ref 0), (1, .int v1), (2, .int v2), (3, .int v3), (4, .int v4), (7, .int v7)]) rfl (by rw [ml_75]; decide) (by decide) rfl (TBof tbs_75 _ rfl) rfl ?_
      refine ev_goto (pc1 := 15) (TBof tbs_75 _ rfl) (by decide) ?_
      exact ev_le [2, 3, 4, 5, 6, 1, 0] rfl rfl (H _ _ _ hI)
    · replace H := H.2 c4
      refine ev_aload_n (pc1 := 161) rfl rfl (TBof tbs_75 _ rfl) rfl ?_
      refine ev_bipush (pc1 := 163) (x := 8) (by decide) (TBof tbs_75 _ rfl) rfl ?_
      refine ev_callvI (pc1 := 166) (as := [.int 8]) (r := []) (TBof tbs_75 _ rfl) rfl (lnkof mo_75 ln_7_24) rfl na_56 ltc_0 (sh_0.trans (by rw [mo_56])) (Nat.le_of_ble_eq_true rfl) (CN_count hw hI) (fun x5 M5 h5 D5 ⟨e5, hI⟩ => ?_)
      subst e5
      refine ev_iload (pc1 := 168) rfl (TBof tbs_75 _ rfl) rfl ?_
      refine ev_ishr (pc1 := 169) (TBof tbs_75 _ rfl) rfl ?_
      refine ev_iconst (pc1 := 170) (x := 1) (by decide) (TBof tbs_75 _ rfl) rfl ?_
      refine ev_iand (pc1 := 171) (TBof tbs_75 _ rfl) rfl ?_
      refine ev_if (pc1 := 174) (t := 197) (TBof tbs_75 _ rfl) (by decide) rfl (fun c6 => ?_) (fun c6 => ?_)
      · replace H := H.1 c6
        refine ev_iconst (pc1 := 198) (x := 1) (by decide) (TBof tbs_75 _ rfl) rfl ?_
        refine ev_goto (pc1 := 202) (TBof tbs_75 _ rfl) (by decide) ?_
        refine ev_istore (pc1 := 204) (L1 := [(5, .int 1), (0, .ref 0), (1, .int v1), (2, .int v2), (3, .int v3), (4, .int v4), (6, .int v6), (7, .int v7)]) (by rw [ml_75]; decide) rfl (TBof tbs_75 _ rfl) rfl ?_
        refine ev_iinc (pc1 := 207) (n := 6) (c := 1) (x := v6) (cc := 1) (L1 := [(6, .int (v6 + 1)), (5, .int 1), (0, .ref 0), (1, .int v1), (2, .int v2), (3, .int v3), (4, .int v4), (7, .int v7)]) rfl (by rw [ml_75]; decide) (by decide) rfl (TBof tbs_75 _ rfl) rfl ?_
        refine ev_goto (pc1 := 15) (TBof tbs_75 _ rfl) (by decide) ?_
        exact ev_le [2, 3, 4, 5, 6, 1, 0] rfl rfl (H _ _ _ hI)
      · replace H := H.2 c6
        refine ev_aload_n (pc1 := 175) rfl rfl (TBof tbs_75 _ rfl) rfl ?_
        refine ev_iload (pc1 := 177) rfl (TBof tbs_75 _ rfl) rfl ?_
        refine ev_bipush (pc1 := 179) (x := 6) (by decide) (TBof tbs_75 _ rfl) rfl ?_
        refine ev_callvI (pc1 := 182) (as := [.int v6, .int 6]) (r := []) (TBof tbs_75 _ rfl) rfl (lnkof mo_75 ln_7_27) rfl na_50 ltc_0 (sh_0.trans (by rw [mo_50])) (Nat.le_of_ble_eq_true rfl) (CN_drawer hw hI) (fun x7 M7 h7 D7 ⟨e7, hI⟩ => ?_)
        subst e7
        refine ev_if (pc1 := 185) (t := 201) (TBof tbs_75 _ rfl) (by decide) rfl (fun c8 => ?_) (fun c8 => ?_)
        · replace H := H.1 c8
          refine ev_iconst (pc1 := 202) (x := 0) (by decide) (TBof tbs_75 _ rfl) rfl ?_
          refine ev_istore (pc1 := 204) (L1 := [(5, .int 0), (0, .ref 0), (1, .int v1), (2, .int v2), (3, .int v3), (4, .int v4), (6, .int v6), (7, .int v7)]) (by rw [ml_75]; decide) rfl (TBof tbs_75 _ rfl) rfl ?_
          refine ev_iinc (pc1 := 207) (n := 6) (c := 1) (x := v6) (cc := 1) (L1 := [(6, .int (v6 + 1)), (5, .int 0), (0, .ref 0), (1, .int v1), (2, .int v2), (3, .int v3), (4, .int v4), (7, .int v7)]) rfl (by rw [ml_75]; decide) (by decide) rfl (TBof tbs_75 _ rfl) rfl ?_
          refine ev_goto (pc1 := 15) (TBof tbs_75 _ rfl) (by decide) ?_
          exact ev_le [2, 3, 4, 5, 6, 1, 0] rfl rfl (H _ _ _ hI)
        · replace H := H.2 c8
          refine ev_aload_n (pc1 := 186) rfl rfl (TBof tbs_75 _ rfl) rfl ?_
          refine ev_iload (pc1 := 188) rfl (TBof tbs_75 _ rfl) rfl ?_
          refine ev_bipush (pc1 := 190) (x := 8) (by decide) (TBof tbs_75 _ rfl) rfl ?_
          refine ev_callvI (pc1 := 193) (as := [.int v6, .int 8]) (r := []) (TBof tbs_75 _ rfl) rfl (lnkof mo_75 ln_7_27) rfl na_50 ltc_0 (sh_0.trans (by rw [mo_50])) (Nat.le_of_ble_eq_true rfl) (CN_drawer hw hI) (fun x9 M9 h9 D9 ⟨e9, hI⟩ => ?_)
          subst e9
          refine ev_iconst (pc1 := 194) (x := 1) (by decide) (TBof tbs_75 _ rfl) rfl ?_
          refine ev_icmp (pc1 := 197) (t := 201) (TBof tbs_75 _ rfl) (by decide) rfl (fun c10 => ?_) (fun c10 => ?_)
          · replace H := H.1 c10
            refine ev_iconst (pc1 := 202) (x := 0) (by decide) (TBof tbs_75 _ rfl) rfl ?_
            refine ev_istore (pc1 := 204) (L1 := [(5, .int 0), (0, .ref 0), (1, .int v1), (2, .int v2), (3, .int v3), (4, .int v4), (6, .int v6), (7, .int v7)]) (by rw [ml_75]; decide) rfl (TBof tbs_75 _ rfl) rfl ?_
            refine ev_iinc (pc1 := 207) (n := 6) (c := 1) (x := v6) (cc := 1) (L1 := [(6, .int (v6 + 1)), (5, .int 0), (0, .ref 0), (1, .int v1), (2, .int v2), (3, .int v3), (4, .int v4), (7, .int v7)]) rfl (by rw [ml_75]; decide) (by decide) rfl (TBof tbs_75 _ rfl) rfl ?_
            refine ev_goto (pc1 := 15) (TBof tbs_75 _ rfl) (by decide) ?_
            exact ev_le [2, 3, 4, 5, 6, 1, 0] rfl rfl (H _ _ _ hI)
          · replace H := H.2 c10
            refine ev_iconst (pc1 := 198) (x := 1) (by decide) (TBof tbs_75 _ rfl) rfl ?_
            refine ev_goto (pc1 := 202) (TBof tbs_75 _ rfl) (by decide) ?_
            refine ev_istore (pc1 := 204) (L1 := [(5, .int 1), (0, .ref 0), (1, .int v1), (2, .int v2), (3, .int v3), (4, .int v4), (6, .int v6), (7, .int v7)]) (by rw [ml_75]; decide) rfl (TBof tbs_75 _ rfl) rfl ?_
            refine ev_iinc (pc1 := 207) (n := 6) (c := 1) (x := v6) (cc := 1) (L1 := [(6, .int (v6 + 1)), (5, .int 1), (0, .ref 0), (1, .int v1), (2, .int v2), (3, .int v3), (4, .int v4), (7, .int v7)]) rfl (by rw [ml_75]; decide) (by decide) rfl (TBof tbs_75 _ rfl) rfl ?_
            refine ev_goto (pc1 := 15) (TBof tbs_75 _ rfl) (by decide) ?_
            exact ev_le [2, 3, 4, 5, 6, 1, 0] rfl rfl (H _ _ _ hI)
set_option maxRecDepth 100000 in
theorem R_L_isAll_213 {scr : Option (Nat × (Nat → Int32))} {e : Nat} {c : Nat} {A : Ab} {v1 v2 v3 v4 v5 v6 : Int32} {Q : Int32 → Ab → Prop} (hc : c ≤ 400) (hw : wfA c A) (H : ((12 ≤ v6) → (((v5 = 0) → (Q 0 A)) ∧ (¬ (v5 = 0) → (((¬ (v1 = (opCount (nOf A.1.1) A 2))) → (Q 0 A)) ∧ (¬ (¬ (v1 = (opCount (nOf A.1.1) A 2))) → (((¬ (v2 = (opCount (nOf A.1.1) A 4))) → (Q 0 A)) ∧ (¬ (¬ (v2 = (opCount (nOf A.1.1) A 4))) → (((¬ (v3 = 0)) → (Q 0 A)) ∧ (¬ (¬ (v3 = 0)) → (((¬ (v4 = (opCount (nOf A.1.1) A 3))) → (Q 0 A)) ∧ (¬ (¬ (v4 = (opCount (nOf A.1.1) A 3))) → (Q 1 A)))))))))))) ∧ (¬ (12 ≤ v6) → ((((opThing A.1.1 v6 0) < 0) → (EA scr (e + 8) nL_isAll 236 [(0, .ref 0), (1, .int v1), (2, .int v2), (3, .int v3), (4, .int v4), (5, .int v5), (6, .int v6)] [.int 0, .int v3] A Q)) ∧ (¬ ((opThing A.1.1 v6 0) < 0) → (EA scr (e + 8) nL_isAll 236 [(0, .ref 0), (1, .int v1), (2, .int v2), (3, .int v3), (4, .int v4), (5, .int v5), (6, .int v6)] [.int 1, .int v3] A Q))))) : EA scr (e + 8) nL_isAll 213 [(0, .ref 0), (1, .int v1), (2, .int v2), (3, .int v3), (4, .int v4), (5, .int v5), (6, .int v6)] [] A Q := by
  intro M h D hI
  refine ev_iload (pc1 := 215) rfl (TBof tbs_75 _ rfl) rfl ?_
  refine ev_bipush (pc1 := 217) (x := 12) (by decide) (TBof tbs_75 _ rfl) rfl ?_
  refine ev_icmp (pc1 := 220) (t := 259) (TBof tbs_75 _ rfl) (by decide) rfl (fun c1 => ?_) (fun c1 => ?_)
  · replace H := H.1 c1
    refine ev_iload (pc1 := 261) rfl (TBof tbs_75 _ rfl) rfl ?_
    refine ev_if (pc1 := 264) (t := 300) (TBof tbs_75 _ rfl) (by decide) rfl (fun c2 => ?_) (fun c2 => ?_)
    · replace H := H.1 c2
      refine ev_iconst (pc1 := 301) (x := 0) (by decide) (TBof tbs_75 _ rfl) rfl ?_
      exact ev_ireturn (TBof tbs_75 _ rfl) (retI_z rt_75 (Or.inl rfl)) ⟨_, rfl, _, H, hI⟩
    · replace H := H.2 c2
      refine ev_iload_n (pc1 := 265) rfl (TBof tbs_75 _ rfl) rfl ?_
      refine ev_aload_n (pc1 := 266) rfl rfl (TBof tbs_75 _ rfl) rfl ?_
      refine ev_iconst (pc1 := 267) (x := 2) (by decide) (TBof tbs_75 _ rfl) rfl ?_
      refine ev_callvI (pc1 := 270) (as := [.int 2]) (r := [.int v1]) (TBof tbs_75 _ rfl) rfl (lnkof mo_75 ln_7_24) rfl na_56 ltc_0 (sh_0.trans (by rw [mo_56])) (Nat.le_of_ble_eq_true rfl) (CN_count hw hI) (fun x3 M3 h3 D3 ⟨e3, hI⟩ => ?_)
      subst e3
      refine ev_icmp (pc1 := 273) (t := 300) (TBof tbs_75 _ rfl) (by decide) rfl (fun c4 => ?_) (fun c4 => ?_)
      · replace H := H.1 c4
        refine ev_iconst (pc1 := 301) (x := 0) (by decide) (TBof tbs_75 _ rfl) rfl ?_
        exact ev_ireturn (TBof tbs_75 _ rfl) (retI_z rt_75 (Or.inl rfl)) ⟨_, rfl, _, H, hI⟩
      · replace H := H.2 c4
        refine ev_iload_n (pc1 := 274) rfl (TBof tbs_75 _ rfl) rfl ?_
        refine ev_aload_n (pc1 := 275) rfl rfl (TBof tbs_75 _ rfl) rfl ?_
        refine ev_iconst (pc1 := 276) (x := 4) (by decide) (TBof tbs_75 _ rfl) rfl ?_
        refine ev_callvI (pc1 := 279) (as := [.int 4]) (r := [.int v2]) (TBof tbs_75 _ rfl) rfl (lnkof mo_75 ln_7_24) rfl na_56 ltc_0 (sh_0.trans (by rw [mo_56])) (Nat.le_of_ble_eq_true rfl) (CN_count hw hI) (fun x5 M5 h5 D5 ⟨e5, hI⟩ => ?_)
        subst e5
        refine ev_icmp (pc1 := 282) (t := 300) (TBof tbs_75 _ rfl) (by decide) rfl (fun c6 => ?_) (fun c6 => ?_)
        · replace H := H.1 c6
          refine ev_iconst (pc1 := 301) (x := 0) (by decide) (TBof tbs_75 _ rfl) rfl ?_
          exact ev_ireturn (TBof tbs_75 _ rfl) (retI_z rt_75 (Or.inl rfl)) ⟨_, rfl, _, H, hI⟩
        · replace H := H.2 c6
          refine ev_iload_n (pc1 := 283) rfl (TBof tbs_75 _ rfl) rfl ?_
          refine ev_if (pc1 := 286) (t := 300) (TBof tbs_75 _ rfl) (by decide) rfl (fun c7 => ?_) (fun c7 => ?_)
          · replace H := H.1 c7
            refine ev_iconst (pc1 := 301) (x := 0) (by decide) (TBof tbs_75 _ rfl) rfl ?_
            exact ev_ireturn (TBof tbs_75 _ rfl) (retI_z rt_75 (Or.inl rfl)) ⟨_, rfl, _, H, hI⟩
          · replace H := H.2 c7
            refine ev_iload (pc1 := 288) rfl (TBof tbs_75 _ rfl) rfl ?_
            refine ev_aload_n (pc1 := 289) rfl rfl (TBof tbs_75 _ rfl) rfl ?_
            refine ev_iconst (pc1 := 290) (x := 3) (by decide) (TBof tbs_75 _ rfl) rfl ?_
            refine ev_callvI (pc1 := 293) (as := [.int 3]) (r := [.int v4]) (TBof tbs_75 _ rfl) rfl (lnkof mo_75 ln_7_24) rfl na_56 ltc_0 (sh_0.trans (by rw [mo_56])) (Nat.le_of_ble_eq_true rfl) (CN_count hw hI) (fun x8 M8 h8 D8 ⟨e8, hI⟩ => ?_)
            subst e8
            refine ev_icmp (pc1 := 296) (t := 300) (TBof tbs_75 _ rfl) (by decide) rfl (fun c9 => ?_) (fun c9 => ?_)
            · replace H := H.1 c9
              refine ev_iconst (pc1 := 301) (x := 0) (by decide) (TBof tbs_75 _ rfl) rfl ?_
              exact ev_ireturn (TBof tbs_75 _ rfl) (retI_z rt_75 (Or.inl rfl)) ⟨_, rfl, _, H, hI⟩
            · replace H := H.2 c9
              refine ev_iconst (pc1 := 297) (x := 1) (by decide) (TBof tbs_75 _ rfl) rfl ?_
              refine ev_goto (pc1 := 301) (TBof tbs_75 _ rfl) (by decide) ?_
              exact ev_ireturn (TBof tbs_75 _ rfl) (retI_z rt_75 (Or.inr rfl)) ⟨_, rfl, _, H, hI⟩
  · replace H := H.2 c1
    refine ev_iload_n (pc1 := 221) rfl (TBof tbs_75 _ rfl) rfl ?_
    refine ev_aload_n (pc1 := 222) rfl rfl (TBof tbs_75 _ rfl) rfl ?_
    refine ev_iload (pc1 := 224) rfl (TBof tbs_75 _ rfl) rfl ?_
    refine ev_iconst (pc1 := 225) (x := 0) (by decide) (TBof tbs_75 _ rfl) rfl ?_
    refine ev_callvI (pc1 := 228) (as := [.int v6, .int 0]) (r := [.int v3]) (TBof tbs_75 _ rfl) rfl (lnkof mo_75 ln_7_30) rfl na_51 ltc_0 (sh_0.trans (by rw [mo_51])) (Nat.le_of_ble_eq_true rfl) (CN_thing hw hI) (fun x10 M10 h10 D10 ⟨e10, hI⟩ => ?_)
    subst e10
    refine ev_if (pc1 := 231) (t := 235) (TBof tbs_75 _ rfl) (by decide) rfl (fun c11 => ?_) (fun c11 => ?_)
    · replace H := H.1 c11
      refine ev_iconst (pc1 := 236) (x := 0) (by decide) (TBof tbs_75 _ rfl) rfl ?_
      exact ev_le [0, 1, 2, 3, 4, 5, 6] rfl rfl (H _ _ _ hI)
    · replace H := H.2 c11
      refine ev_iconst (pc1 := 232) (x := 1) (by decide) (TBof tbs_75 _ rfl) rfl ?_
      refine ev_goto (pc1 := 236) (TBof tbs_75 _ rfl) (by decide) ?_
      exact ev_le [0, 1, 2, 3, 4, 5, 6] rfl rfl (H _ _ _ hI)
set_option maxRecDepth 100000 in
theorem R_L_isAll_236 {scr : Option (Nat × (Nat → Int32))} {e : Nat} {c : Nat} {A : Ab} {v1 v2 v3 v4 v5 v6 s0 s1 : Int32} {Q : Int32 → Ab → Prop} (hc : c ≤ 400) (hw : wfA c A) (H : EA scr (e + 8) nL_isAll 213 [(0, .ref 0), (1, .int v1), (2, .int v2), (3, .int (s1 - s0)), (4, .int (v4 ||| ((opThing A.1.1 v6 2) <<< (v6 &&& 31)))), (5, .int v5), (6, .int (v6 + 1))] [] A Q) : EA scr (e + 8) nL_isAll 236 [(0, .ref 0), (1, .int v1), (2, .int v2), (3, .int v3), (4, .int v4), (5, .int v5), (6, .int v6)] [.int s0, .int s1] A Q := by
  intro M h D hI
  refine ev_isub (pc1 := 237) (TBof tbs_75 _ rfl) rfl ?_
  refine ev_istore_n (pc1 := 238) (L1 := [(3, .int (s1 - s0)), (0, .ref 0), (1, .int v1), (2, .int v2), (4, .int v4), (5, .int v5), (6, .int v6)]) (by rw [ml_75]; decide) rfl (TBof tbs_75 _ rfl) rfl ?_
  refine ev_iload (pc1 := 240) rfl (TBof tbs_75 _ rfl) rfl ?_
  refine ev_aload_n (pc1 := 241) rfl rfl (TBof tbs_75 _ rfl) rfl ?_
  refine ev_iload (pc1 := 243) rfl (TBof tbs_75 _ rfl) rfl ?_
  refine ev_iconst (pc1 := 244) (x := 2) (by decide) (TBof tbs_75 _ rfl) rfl ?_
  refine ev_callvI (pc1 := 247) (as := [.int v6, .int 2]) (r := [.int v4]) (TBof tbs_75 _ rfl) rfl (lnkof mo_75 ln_7_30) rfl na_51 ltc_0 (sh_0.trans (by rw [mo_51])) (Nat.le_of_ble_eq_true rfl) (CN_thing hw hI) (fun x1 M1 h1 D1 ⟨e1, hI⟩ => ?_)
  subst e1
  refine ev_iload (pc1 := 249) rfl (TBof tbs_75 _ rfl) rfl ?_
  refine ev_ishl (pc1 := 250) (TBof tbs_75 _ rfl) rfl ?_
  refine ev_ior (pc1 := 251) (TBof tbs_75 _ rfl) rfl ?_
  refine ev_istore (pc1 := 253) (L1 := [(4, .int (v4 ||| ((opThing A.1.1 v6 2) <<< (v6 &&& 31)))), (3, .int (s1 - s0)), (0, .ref 0), (1, .int v1), (2, .int v2), (5, .int v5), (6, .int v6)]) (by rw [ml_75]; decide) rfl (TBof tbs_75 _ rfl) rfl ?_
  refine ev_iinc (pc1 := 256) (n := 6) (c := 1) (x := v6) (cc := 1) (L1 := [(6, .int (v6 + 1)), (4, .int (v4 ||| ((opThing A.1.1 v6 2) <<< (v6 &&& 31)))), (3, .int (s1 - s0)), (0, .ref 0), (1, .int v1), (2, .int v2), (5, .int v5)]) rfl (by rw [ml_75]; decide) (by decide) rfl (TBof tbs_75 _ rfl) rfl ?_
  refine ev_goto (pc1 := 213) (TBof tbs_75 _ rfl) (by decide) ?_
  exact ev_le [3, 4, 5, 2, 1, 6, 0] rfl rfl (H _ _ _ hI)

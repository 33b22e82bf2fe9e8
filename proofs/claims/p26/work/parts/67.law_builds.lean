/-! what each block of the law asks: builds -/
set_option maxRecDepth 100000 in
theorem R_L_builds_0 {Lb : Nat} {xs : Nat → Int32} {e : Nat} {c : Nat} {A : Ab} {Q : Int32 → Ab → Prop} (hLb : Lb ≤ 260) (hc : c ≤ 400) (hw : wfA c A) (H : 0 ≤ (0 : Int32) ∧ ((8 : Int32) ≠ 0 ∧ (EA (some (Lb, xs)) (e + 8) nL_builds 16 [(0, .ref 0), (1, .retAddr 0), (2, .int (2 + ((cellV Lb xs 0) - (cellV Lb xs 0) / 8 * 8))), (3, .int 1), (4, .int 0)] [] A Q))) : EA (some (Lb, xs)) (e + 8) nL_builds 0 [(0, .ref 0), (1, .retAddr 0)] [] A Q := by
  intro M h D hI
  refine ev_iconst (pc1 := 1) (x := 2) (by decide) (TBof tbs_74 _ rfl) rfl ?_
  refine ev_aload_n (pc1 := 2) rfl rfl (TBof tbs_74 _ rfl) rfl ?_
  refine ev_iconst (pc1 := 3) (x := 0) (by decide) (TBof tbs_74 _ rfl) rfl ?_
  refine ev_callsS (pc1 := 6) (as := [.retAddr 0, .int 0]) (r := [.int 2]) (TBof tbs_74 _ rfl) rfl (lnkof mo_74 ln_7_52) (Or.inl rfl) rfl na_70 (Nat.le_of_ble_eq_true rfl) (CN_cell hLb H.1 hI) (fun x1 M1 h1 D1 ⟨e1, hI⟩ => ?_)
  subst e1
  replace H := H.2
  refine ev_bipush (pc1 := 8) (x := 8) (by decide) (TBof tbs_74 _ rfl) rfl ?_
  refine ev_irem (pc1 := 9) H.1 (TBof tbs_74 _ rfl) rfl ?_
  replace H := H.2
  refine ev_iadd (pc1 := 10) (TBof tbs_74 _ rfl) rfl ?_
  refine ev_istore_n (pc1 := 11) (L1 := [(2, .int (2 + ((cellV Lb xs 0) - (cellV Lb xs 0) / 8 * 8))), (0, .ref 0), (1, .retAddr 0)]) (by rw [ml_74]; decide) rfl (TBof tbs_74 _ rfl) rfl ?_
  refine ev_iconst (pc1 := 12) (x := 1) (by decide) (TBof tbs_74 _ rfl) rfl ?_
  refine ev_istore_n (pc1 := 13) (L1 := [(3, .int 1), (2, .int (2 + ((cellV Lb xs 0) - (cellV Lb xs 0) / 8 * 8))), (0, .ref 0), (1, .retAddr 0)]) (by rw [ml_74]; decide) rfl (TBof tbs_74 _ rfl) rfl ?_
  refine ev_iconst (pc1 := 14) (x := 0) (by decide) (TBof tbs_74 _ rfl) rfl ?_
  refine ev_istore (pc1 := 16) (L1 := [(4, .int 0), (3, .int 1), (2, .int (2 + ((cellV Lb xs 0) - (cellV Lb xs 0) / 8 * 8))), (0, .ref 0), (1, .retAddr 0)]) (by rw [ml_74]; decide) rfl (TBof tbs_74 _ rfl) rfl ?_
  exact ev_le [3, 4, 2, 1, 0] rfl rfl (H _ _ _ hI)
set_option maxRecDepth 100000 in
theorem R_L_builds_16 {Lb : Nat} {xs : Nat → Int32} {e : Nat} {c : Nat} {A : Ab} {v2 v3 v4 : Int32} {Q : Int32 → Ab → Prop} (hLb : Lb ≤ 260) (hc : c ≤ 400) (hw : wfA c A) (H : ((v2 ≤ v4) → (EA (some (Lb, xs)) (e + 8) nL_builds 157 [(0, .ref 0), (1, .retAddr 0), (2, .int v2), (3, .int v3), (4, .int 0)] [] A Q)) ∧ (¬ (v2 ≤ v4) → (((v3 = 0) → (EA (some (Lb, xs)) (e + 8) nL_builds 157 [(0, .ref 0), (1, .retAddr 0), (2, .int v2), (3, .int v3), (4, .int 0)] [] A Q)) ∧ (¬ (v3 = 0) → (0 ≤ (1 + v4) ∧ (((v4 = 0) → (EA (some (Lb, xs)) (e + 8) nL_builds 60 [(0, .ref 0), (1, .retAddr 0), (2, .int v2), (3, .int v3), (4, .int v4), (5, .int (cellV Lb xs (1 + v4)))] [.int (-5)] A Q)) ∧ (¬ (v4 = 0) → ((3 : Int32) ≠ 0 ∧ (((((cellV Lb xs (1 + v4)) - (cellV Lb xs (1 + v4)) / 3 * 3) ≤ 0) → (v4 ≠ 0 ∧ (EA (some (Lb, xs)) (e + 8) nL_builds 60 [(0, .ref 0), (1, .retAddr 0), (2, .int v2), (3, .int v3), (4, .int v4), (5, .int (cellV Lb xs (1 + v4)))] [.int (((cellV Lb xs (1 + v4)) >>> (2 &&& 31)) - ((cellV Lb xs (1 + v4)) >>> (2 &&& 31)) / v4 * v4)] A Q))) ∧ (¬ (((cellV Lb xs (1 + v4)) - (cellV Lb xs (1 + v4)) / 3 * 3) ≤ 0) → (EA (some (Lb, xs)) (e + 8) nL_builds 60 [(0, .ref 0), (1, .retAddr 0), (2, .int v2), (3, .int v3), (4, .int v4), (5, .int (cellV Lb xs (1 + v4)))] [.int (-5)] A Q))))))))))) : EA (some (Lb, xs)) (e + 8) nL_builds 16 [(0, .ref 0), (1, .retAddr 0), (2, .int v2), (3, .int v3), (4, .int v4)] [] A Q := by
  intro M h D hI
  refine ev_iload (pc1 := 18) rfl (TBof tbs_74 _ rfl) rfl ?_
  refine ev_iload_n (pc1 := 19) rfl (TBof tbs_74 _ rfl) rfl ?_
  refine ev_icmp (pc1 := 22) (t := 154) (TBof tbs_74 _ rfl) (by decide) rfl (fun c1 => ?_) (fun c1 => ?_)
  · replace H := H.1 c1
    refine ev_iconst (pc1 := 155) (x := 0) (by decide) (TBof tbs_74 _ rfl) rfl ?_
    refine ev_istore (pc1 := 157) (L1 := [(4, .int 0), (0, .ref 0), (1, .retAddr 0), (2, .int v2), (3, .int v3)]) (by rw [ml_74]; decide) rfl (TBof tbs_74 _ rfl) rfl ?_
    exact ev_le [1, 2, 3, 4, 0] rfl rfl (H _ _ _ hI)
  · replace H := H.2 c1
    refine ev_iload_n (pc1 := 23) rfl (TBof tbs_74 _ rfl) rfl ?_
    refine ev_if (pc1 := 26) (t := 154) (TBof tbs_74 _ rfl) (by decide) rfl (fun c2 => ?_) (fun c2 => ?_)
    · replace H := H.1 c2
      refine ev_iconst (pc1 := 155) (x := 0) (by decide) (TBof tbs_74 _ rfl) rfl ?_
      refine ev_istore (pc1 := 157) (L1 := [(4, .int 0), (0, .ref 0), (1, .retAddr 0), (2, .int v2), (3, .int v3)]) (by rw [ml_74]; decide) rfl (TBof tbs_74 _ rfl) rfl ?_
      exact ev_le [1, 2, 3, 4, 0] rfl rfl (H _ _ _ hI)
    · replace H := H.2 c2
      refine ev_aload_n (pc1 := 27) rfl rfl (TBof tbs_74 _ rfl) rfl ?_
      refine ev_iconst (pc1 := 28) (x := 1) (by decide) (TBof tbs_74 _ rfl) rfl ?_
      refine ev_iload (pc1 := 30) rfl (TBof tbs_74 _ rfl) rfl ?_
      refine ev_iadd (pc1 := 31) (TBof tbs_74 _ rfl) rfl ?_
      refine ev_callsS (pc1 := 34) (as := [.retAddr 0, .int (1 + v4)]) (r := []) (TBof tbs_74 _ rfl) rfl (lnkof mo_74 ln_7_52) (Or.inl rfl) rfl na_70 (Nat.le_of_ble_eq_true rfl) (CN_cell hLb H.1 hI) (fun x3 M3 h3 D3 ⟨e3, hI⟩ => ?_)
      subst e3
      replace H := H.2
      refine ev_istore (pc1 := 36) (L1 := [(5, .int (cellV Lb xs (1 + v4))), (0, .ref 0), (1, .retAddr 0), (2, .int v2), (3, .int v3), (4, .int v4)]) (by rw [ml_74]; decide) rfl (TBof tbs_74 _ rfl) rfl ?_
      refine ev_iload (pc1 := 38) rfl (TBof tbs_74 _ rfl) rfl ?_
      refine ev_if (pc1 := 41) (t := 48) (TBof tbs_74 _ rfl) (by decide) rfl (fun c4 => ?_) (fun c4 => ?_)
      · replace H := H.1 c4
        refine ev_bipush (pc1 := 50) (x := (-5)) (by decide) (TBof tbs_74 _ rfl) rfl ?_
        refine ev_goto (pc1 := 60) (TBof tbs_74 _ rfl) (by decide) ?_
        exact ev_le [1, 2, 3, 4, 5, 0] rfl rfl (H _ _ _ hI)
      · replace H := H.2 c4
        refine ev_iload (pc1 := 43) rfl (TBof tbs_74 _ rfl) rfl ?_
        refine ev_iconst (pc1 := 44) (x := 3) (by decide) (TBof tbs_74 _ rfl) rfl ?_
        refine ev_irem (pc1 := 45) H.1 (TBof tbs_74 _ rfl) rfl ?_
        replace H := H.2
        refine ev_if (pc1 := 48) (t := 53) (TBof tbs_74 _ rfl) (by decide) rfl (fun c5 => ?_) (fun c5 => ?_)
        · replace H := H.1 c5
          refine ev_iload (pc1 := 55) rfl (TBof tbs_74 _ rfl) rfl ?_
          refine ev_iconst (pc1 := 56) (x := 2) (by decide) (TBof tbs_74 _ rfl) rfl ?_
          refine ev_ishr (pc1 := 57) (TBof tbs_74 _ rfl) rfl ?_
          refine ev_iload (pc1 := 59) rfl (TBof tbs_74 _ rfl) rfl ?_
          refine ev_irem (pc1 := 60) H.1 (TBof tbs_74 _ rfl) rfl ?_
          replace H := H.2
          exact ev_le [1, 2, 3, 4, 5, 0] rfl rfl (H _ _ _ hI)
        · replace H := H.2 c5
          refine ev_bipush (pc1 := 50) (x := (-5)) (by decide) (TBof tbs_74 _ rfl) rfl ?_
          refine ev_goto (pc1 := 60) (TBof tbs_74 _ rfl) (by decide) ?_
          exact ev_le [1, 2, 3, 4, 5, 0] rfl rfl (H _ _ _ hI)
set_option maxRecDepth 100000 in
theorem R_L_builds_60 {Lb : Nat} {xs : Nat → Int32} {e : Nat} {c : Nat} {A : Ab} {v2 v3 v4 v5 s0 : Int32} {Q : Int32 → Ab → Prop} (hLb : Lb ≤ 260) (hc : c ≤ 400) (hw : wfA c A) (H : (4 : Int32) ≠ 0 ∧ (((¬ (((v5 >>> (6 &&& 31)) - (v5 >>> (6 &&& 31)) / 4 * 4) = 2)) → ((10 : Int32) ≠ 0 ∧ (EA (some (Lb, xs)) (e + 8) nL_builds 100 [(0, .ref 0), (1, .retAddr 0), (2, .int v2), (3, .int v3), (4, .int v4), (5, .int v5), (6, .int s0), (7, .int ((v5 >>> (6 &&& 31)) - (v5 >>> (6 &&& 31)) / 4 * 4))] [.int ((v5 >>> (8 &&& 31)) - (v5 >>> (8 &&& 31)) / 10 * 10), .int ((v5 >>> (6 &&& 31)) - (v5 >>> (6 &&& 31)) / 4 * 4), .int s0, .ref 0] A Q))) ∧ (¬ (¬ (((v5 >>> (6 &&& 31)) - (v5 >>> (6 &&& 31)) / 4 * 4) = 2)) → (v2 ≠ 0 ∧ (EA (some (Lb, xs)) (e + 8) nL_builds 100 [(0, .ref 0), (1, .retAddr 0), (2, .int v2), (3, .int v3), (4, .int v4), (5, .int v5), (6, .int s0), (7, .int ((v5 >>> (6 &&& 31)) - (v5 >>> (6 &&& 31)) / 4 * 4))] [.int ((v5 >>> (8 &&& 31)) - (v5 >>> (8 &&& 31)) / v2 * v2), .int ((v5 >>> (6 &&& 31)) - (v5 >>> (6 &&& 31)) / 4 * 4), .int s0, .ref 0] A Q))))) : EA (some (Lb, xs)) (e + 8) nL_builds 60 [(0, .ref 0), (1, .retAddr 0), (2, .int v2), (3, .int v3), (4, .int v4), (5, .int v5)] [.int s0] A Q := by
  intro M h D hI
  refine ev_istore (pc1 := 62) (L1 := [(6, .int s0), (0, .ref 0), (1, .retAddr 0), (2, .int v2), (3, .int v3), (4, .int v4), (5, .int v5)]) (by rw [ml_74]; decide) rfl (TBof tbs_74 _ rfl) rfl ?_
  refine ev_iload (pc1 := 64) rfl (TBof tbs_74 _ rfl) rfl ?_
  refine ev_bipush (pc1 := 66) (x := 6) (by decide) (TBof tbs_74 _ rfl) rfl ?_
  refine ev_ishr (pc1 := 67) (TBof tbs_74 _ rfl) rfl ?_
  refine ev_iconst (pc1 := 68) (x := 4) (by decide) (TBof tbs_74 _ rfl) rfl ?_
  refine ev_irem (pc1 := 69) H.1 (TBof tbs_74 _ rfl) rfl ?_
  replace H := H.2
  refine ev_istore (pc1 := 71) (L1 := [(7, .int ((v5 >>> (6 &&& 31)) - (v5 >>> (6 &&& 31)) / 4 * 4)), (6, .int s0), (0, .ref 0), (1, .retAddr 0), (2, .int v2), (3, .int v3), (4, .int v4), (5, .int v5)]) (by rw [ml_74]; decide) rfl (TBof tbs_74 _ rfl) rfl ?_
  refine ev_aload_n (pc1 := 72) rfl rfl (TBof tbs_74 _ rfl) rfl ?_
  refine ev_iload (pc1 := 74) rfl (TBof tbs_74 _ rfl) rfl ?_
  refine ev_iload (pc1 := 76) rfl (TBof tbs_74 _ rfl) rfl ?_
  refine ev_iload (pc1 := 78) rfl (TBof tbs_74 _ rfl) rfl ?_
  refine ev_iconst (pc1 := 79) (x := 2) (by decide) (TBof tbs_74 _ rfl) rfl ?_
  refine ev_icmp (pc1 := 82) (t := 92) (TBof tbs_74 _ rfl) (by decide) rfl (fun c1 => ?_) (fun c1 => ?_)
  · replace H := H.1 c1
    refine ev_iload (pc1 := 94) rfl (TBof tbs_74 _ rfl) rfl ?_
    refine ev_bipush (pc1 := 96) (x := 8) (by decide) (TBof tbs_74 _ rfl) rfl ?_
    refine ev_ishr (pc1 := 97) (TBof tbs_74 _ rfl) rfl ?_
    refine ev_bipush (pc1 := 99) (x := 10) (by decide) (TBof tbs_74 _ rfl) rfl ?_
    refine ev_irem (pc1 := 100) H.1 (TBof tbs_74 _ rfl) rfl ?_
    replace H := H.2
    exact ev_le [2, 3, 4, 5, 6, 7, 1, 0] rfl rfl (H _ _ _ hI)
  · replace H := H.2 c1
    refine ev_iload (pc1 := 84) rfl (TBof tbs_74 _ rfl) rfl ?_
    refine ev_bipush (pc1 := 86) (x := 8) (by decide) (TBof tbs_74 _ rfl) rfl ?_
    refine ev_ishr (pc1 := 87) (TBof tbs_74 _ rfl) rfl ?_
    refine ev_iload_n (pc1 := 88) rfl (TBof tbs_74 _ rfl) rfl ?_
    refine ev_irem (pc1 := 89) H.1 (TBof tbs_74 _ rfl) rfl ?_
    replace H := H.2
    refine ev_goto (pc1 := 100) (TBof tbs_74 _ rfl) (by decide) ?_
    exact ev_le [2, 3, 4, 5, 6, 7, 1, 0] rfl rfl (H _ _ _ hI)
set_option maxRecDepth 100000 in
theorem R_L_builds_100 {Lb : Nat} {xs : Nat → Int32} {e : Nat} {c : Nat} {A : Ab} {v2 v3 v4 v5 v6 v7 s0 s1 s2 : Int32} {Q : Int32 → Ab → Prop} (hLb : Lb ≤ 260) (hc : c ≤ 400) (hw : wfA c A) (H : (10 : Int32) ≠ 0 ∧ (∀ (x1 : Int32) (A1 : Ab), opBuild A s2 s1 s0 ((v5 >>> (12 &&& 31)) - (v5 >>> (12 &&& 31)) / 10 * 10) = (x1, A1) → (((¬ (x1 = v4)) → (EA (some (Lb, xs)) (e + 8) nL_builds 16 [(0, .ref 0), (1, .retAddr 0), (2, .int v2), (3, .int 0), (4, .int (v4 + 1))] [] A1 Q)) ∧ (¬ (¬ (x1 = v4)) → ((4 : Int32) ≠ 0 ∧ (((((v5 >>> (16 &&& 31)) - (v5 >>> (16 &&& 31)) / 4 * 4) = 0) → (EA (some (Lb, xs)) (e + 8) nL_builds 16 [(0, .ref 0), (1, .retAddr 0), (2, .int v2), (3, .int 1), (4, .int (v4 + 1))] [] A1 Q)) ∧ (¬ (((v5 >>> (16 &&& 31)) - (v5 >>> (16 &&& 31)) / 4 * 4) = 0) → ((4 : Int32) ≠ 0 ∧ (∀ (x4 : Int32) (A4 : Ab), opSetB A1 v4 ((v5 >>> (16 &&& 31)) - (v5 >>> (16 &&& 31)) / 4 * 4) = (x4, A4) → (((¬ (x4 = 0)) → (EA (some (Lb, xs)) (e + 8) nL_builds 16 [(0, .ref 0), (1, .retAddr 0), (2, .int v2), (3, .int 0), (4, .int (v4 + 1))] [] A4 Q)) ∧ (¬ (¬ (x4 = 0)) → (EA (some (Lb, xs)) (e + 8) nL_builds 16 [(0, .ref 0), (1, .retAddr 0), (2, .int v2), (3, .int 1), (4, .int (v4 + 1))] [] A4 Q)))))))))))) : EA (some (Lb, xs)) (e + 8) nL_builds 100 [(0, .ref 0), (1, .retAddr 0), (2, .int v2), (3, .int v3), (4, .int v4), (5, .int v5), (6, .int v6), (7, .int v7)] [.int s0, .int s1, .int s2, .ref 0] A Q := by
  intro M h D hI
  refine ev_iload (pc1 := 102) rfl (TBof tbs_74 _ rfl) rfl ?_
  refine ev_bipush (pc1 := 104) (x := 12) (by decide) (TBof tbs_74 _ rfl) rfl ?_
  refine ev_ishr (pc1 := 105) (TBof tbs_74 _ rfl) rfl ?_
  refine ev_bipush (pc1 := 107) (x := 10) (by decide) (TBof tbs_74 _ rfl) rfl ?_
  refine ev_irem (pc1 := 108) H.1 (TBof tbs_74 _ rfl) rfl ?_
  replace H := H.2
  refine ev_callvI (pc1 := 111) (as := [.int s2, .int s1, .int s0, .int ((v5 >>> (12 &&& 31)) - (v5 >>> (12 &&& 31)) / 10 * 10)]) (r := []) (TBof tbs_74 _ rfl) rfl (lnkof mo_74 ln_7_56) rfl na_39 ltc_0 (sh_0.trans (by rw [mo_39])) (Nat.le_of_ble_eq_true rfl) (CN_build hw hI) (fun x1 M1 h1 D1 ⟨A1, q1, hI, hw⟩ => ?_)
  replace H := H x1 A1 q1
  refine ev_iload (pc1 := 113) rfl (TBof tbs_74 _ rfl) rfl ?_
  refine ev_icmp (pc1 := 116) (t := 146) (TBof tbs_74 _ rfl) (by decide) rfl (fun c2 => ?_) (fun c2 => ?_)
  · replace H := H.1 c2
    refine ev_iconst (pc1 := 147) (x := 0) (by decide) (TBof tbs_74 _ rfl) rfl ?_
    refine ev_istore_n (pc1 := 148) (L1 := [(3, .int 0), (0, .ref 0), (1, .retAddr 0), (2, .int v2), (4, .int v4), (5, .int v5), (6, .int v6), (7, .int v7)]) (by rw [ml_74]; decide) rfl (TBof tbs_74 _ rfl) rfl ?_
    refine ev_iinc (pc1 := 151) (n := 4) (c := 1) (x := v4) (cc := 1) (L1 := [(4, .int (v4 + 1)), (3, .int 0), (0, .ref 0), (1, .retAddr 0), (2, .int v2), (5, .int v5), (6, .int v6), (7, .int v7)]) rfl (by rw [ml_74]; decide) (by decide) rfl (TBof tbs_74 _ rfl) rfl ?_
    refine ev_goto (pc1 := 16) (TBof tbs_74 _ rfl) (by decide) ?_
    exact ev_le [2, 3, 4, 1, 0] rfl rfl (H _ _ _ hI)
  · replace H := H.2 c2
    refine ev_iload (pc1 := 118) rfl (TBof tbs_74 _ rfl) rfl ?_
    refine ev_bipush (pc1 := 120) (x := 16) (by decide) (TBof tbs_74 _ rfl) rfl ?_
    refine ev_ishr (pc1 := 121) (TBof tbs_74 _ rfl) rfl ?_
    refine ev_iconst (pc1 := 122) (x := 4) (by decide) (TBof tbs_74 _ rfl) rfl ?_
    refine ev_irem (pc1 := 123) H.1 (TBof tbs_74 _ rfl) rfl ?_
    replace H := H.2
    refine ev_if (pc1 := 126) (t := 142) (TBof tbs_74 _ rfl) (by decide) rfl (fun c3 => ?_) (fun c3 => ?_)
    · replace H := H.1 c3
      refine ev_iconst (pc1 := 143) (x := 1) (by decide) (TBof tbs_74 _ rfl) rfl ?_
      refine ev_goto (pc1 := 147) (TBof tbs_74 _ rfl) (by decide) ?_
      refine ev_istore_n (pc1 := 148) (L1 := [(3, .int 1), (0, .ref 0), (1, .retAddr 0), (2, .int v2), (4, .int v4), (5, .int v5), (6, .int v6), (7, .int v7)]) (by rw [ml_74]; decide) rfl (TBof tbs_74 _ rfl) rfl ?_
      refine ev_iinc (pc1 := 151) (n := 4) (c := 1) (x := v4) (cc := 1) (L1 := [(4, .int (v4 + 1)), (3, .int 1), (0, .ref 0), (1, .retAddr 0), (2, .int v2), (5, .int v5), (6, .int v6), (7, .int v7)]) rfl (by rw [ml_74]; decide) (by decide) rfl (TBof tbs_74 _ rfl) rfl ?_
      refine ev_goto (pc1 := 16) (TBof tbs_74 _ rfl) (by decide) ?_
      exact ev_le [2, 3, 4, 1, 0] rfl rfl (H _ _ _ hI)
    · replace H := H.2 c3
      refine ev_aload_n (pc1 := 127) rfl rfl (TBof tbs_74 _ rfl) rfl ?_
      refine ev_iload (pc1 := 129) rfl (TBof tbs_74 _ rfl) rfl ?_
      refine ev_iload (pc1 := 131) rfl (TBof tbs_74 _ rfl) rfl ?_
      refine ev_bipush (pc1 := 133) (x := 16) (by decide) (TBof tbs_74 _ rfl) rfl ?_
      refine ev_ishr (pc1 := 134) (TBof tbs_74 _ rfl) rfl ?_
      refine ev_iconst (pc1 := 135) (x := 4) (by decide) (TBof tbs_74 _ rfl) rfl ?_
      refine ev_irem (pc1 := 136) H.1 (TBof tbs_74 _ rfl) rfl ?_
      replace H := H.2
      refine ev_callvI (pc1 := 139) (as := [.int v4, .int ((v5 >>> (16 &&& 31)) - (v5 >>> (16 &&& 31)) / 4 * 4)]) (r := []) (TBof tbs_74 _ rfl) rfl (lnkof mo_74 ln_7_60) rfl na_40 ltc_0 (sh_0.trans (by rw [mo_40])) (Nat.le_of_ble_eq_true rfl) (CN_setBottoms hw hI) (fun x4 M4 h4 D4 ⟨A4, q4, hI, hw⟩ => ?_)
      replace H := H x4 A4 q4
      refine ev_if (pc1 := 142) (t := 146) (TBof tbs_74 _ rfl) (by decide) rfl (fun c5 => ?_) (fun c5 => ?_)
      · replace H := H.1 c5
        refine ev_iconst (pc1 := 147) (x := 0) (by decide) (TBof tbs_74 _ rfl) rfl ?_
        refine ev_istore_n (pc1 := 148) (L1 := [(3, .int 0), (0, .ref 0), (1, .retAddr 0), (2, .int v2), (4, .int v4), (5, .int v5), (6, .int v6), (7, .int v7)]) (by rw [ml_74]; decide) rfl (TBof tbs_74 _ rfl) rfl ?_
        refine ev_iinc (pc1 := 151) (n := 4) (c := 1) (x := v4) (cc := 1) (L1 := [(4, .int (v4 + 1)), (3, .int 0), (0, .ref 0), (1, .retAddr 0), (2, .int v2), (5, .int v5), (6, .int v6), (7, .int v7)]) rfl (by rw [ml_74]; decide) (by decide) rfl (TBof tbs_74 _ rfl) rfl ?_
        refine ev_goto (pc1 := 16) (TBof tbs_74 _ rfl) (by decide) ?_
        exact ev_le [2, 3, 4, 1, 0] rfl rfl (H _ _ _ hI)
      · replace H := H.2 c5
        refine ev_iconst (pc1 := 143) (x := 1) (by decide) (TBof tbs_74 _ rfl) rfl ?_
        refine ev_goto (pc1 := 147) (TBof tbs_74 _ rfl) (by decide) ?_
        refine ev_istore_n (pc1 := 148) (L1 := [(3, .int 1), (0, .ref 0), (1, .retAddr 0), (2, .int v2), (4, .int v4), (5, .int v5), (6, .int v6), (7, .int v7)]) (by rw [ml_74]; decide) rfl (TBof tbs_74 _ rfl) rfl ?_
        refine ev_iinc (pc1 := 151) (n := 4) (c := 1) (x := v4) (cc := 1) (L1 := [(4, .int (v4 + 1)), (3, .int 1), (0, .ref 0), (1, .retAddr 0), (2, .int v2), (5, .int v5), (6, .int v6), (7, .int v7)]) rfl (by rw [ml_74]; decide) (by decide) rfl (TBof tbs_74 _ rfl) rfl ?_
        refine ev_goto (pc1 := 16) (TBof tbs_74 _ rfl) (by decide) ?_
        exact ev_le [2, 3, 4, 1, 0] rfl rfl (H _ _ _ hI)
set_option maxRecDepth 100000 in
theorem R_L_builds_157 {Lb : Nat} {xs : Nat → Int32} {e : Nat} {c : Nat} {A : Ab} {v2 v3 v4 : Int32} {Q : Int32 → Ab → Prop} (hLb : Lb ≤ 260) (hc : c ≤ 400) (hw : wfA c A) (H : ((12 ≤ v4) → ((v3 = 0 ∨ v3 = 1) ∧ Q v3 A)) ∧ (¬ (12 ≤ v4) → (((v3 = 0) → ((v3 = 0 ∨ v3 = 1) ∧ Q v3 A)) ∧ (¬ (v3 = 0) → (0 ≤ (11 + v4) ∧ (v2 ≠ 0 ∧ (((opDrawer A.1.1 (((cellV Lb xs (11 + v4)) >>> (2 &&& 31)) - ((cellV Lb xs (11 + v4)) >>> (2 &&& 31)) / v2 * v2) 4) + (1 : Int32)) ≠ 0 ∧ ((4 : Int32) ≠ 0 ∧ (((((cellV Lb xs (11 + v4)) - (cellV Lb xs (11 + v4)) / 4 * 4) = 0) → (EA (some (Lb, xs)) (e + 8) nL_builds 157 [(0, .ref 0), (1, .retAddr 0), (2, .int v2), (3, .int 1), (4, .int (v4 + 1))] [] A Q)) ∧ (¬ (((cellV Lb xs (11 + v4)) - (cellV Lb xs (11 + v4)) / 4 * 4) = 0) → (∀ (x6 : Int32) (A6 : Ab), opLay A v4 (((cellV Lb xs (11 + v4)) >>> (2 &&& 31)) - ((cellV Lb xs (11 + v4)) >>> (2 &&& 31)) / v2 * v2) (((cellV Lb xs (11 + v4)) >>> (8 &&& 31)) - ((cellV Lb xs (11 + v4)) >>> (8 &&& 31)) / ((opDrawer A.1.1 (((cellV Lb xs (11 + v4)) >>> (2 &&& 31)) - ((cellV Lb xs (11 + v4)) >>> (2 &&& 31)) / v2 * v2) 4) + (1 : Int32)) * ((opDrawer A.1.1 (((cellV Lb xs (11 + v4)) >>> (2 &&& 31)) - ((cellV Lb xs (11 + v4)) >>> (2 &&& 31)) / v2 * v2) 4) + (1 : Int32))) = (x6, A6) → (((x6 ≤ 0) → (EA (some (Lb, xs)) (e + 8) nL_builds 157 [(0, .ref 0), (1, .retAddr 0), (2, .int v2), (3, .int 0), (4, .int (v4 + 1))] [] A6 Q)) ∧ (¬ (x6 ≤ 0) → (((¬ ((opThing A6.1.1 v4 0) = (((cellV Lb xs (11 + v4)) >>> (2 &&& 31)) - ((cellV Lb xs (11 + v4)) >>> (2 &&& 31)) / v2 * v2))) → (EA (some (Lb, xs)) (e + 8) nL_builds 157 [(0, .ref 0), (1, .retAddr 0), (2, .int v2), (3, .int 0), (4, .int (v4 + 1))] [] A6 Q)) ∧ (¬ (¬ ((opThing A6.1.1 v4 0) = (((cellV Lb xs (11 + v4)) >>> (2 &&& 31)) - ((cellV Lb xs (11 + v4)) >>> (2 &&& 31)) / v2 * v2))) → (((¬ ((opThing A6.1.1 v4 1) = (((cellV Lb xs (11 + v4)) >>> (8 &&& 31)) - ((cellV Lb xs (11 + v4)) >>> (8 &&& 31)) / ((opDrawer A.1.1 (((cellV Lb xs (11 + v4)) >>> (2 &&& 31)) - ((cellV Lb xs (11 + v4)) >>> (2 &&& 31)) / v2 * v2) 4) + (1 : Int32)) * ((opDrawer A.1.1 (((cellV Lb xs (11 + v4)) >>> (2 &&& 31)) - ((cellV Lb xs (11 + v4)) >>> (2 &&& 31)) / v2 * v2) 4) + (1 : Int32))))) → (EA (some (Lb, xs)) (e + 8) nL_builds 157 [(0, .ref 0), (1, .retAddr 0), (2, .int v2), (3, .int 0), (4, .int (v4 + 1))] [] A6 Q)) ∧ (¬ (¬ ((opThing A6.1.1 v4 1) = (((cellV Lb xs (11 + v4)) >>> (8 &&& 31)) - ((cellV Lb xs (11 + v4)) >>> (8 &&& 31)) / ((opDrawer A.1.1 (((cellV Lb xs (11 + v4)) >>> (2 &&& 31)) - ((cellV Lb xs (11 + v4)) >>> (2 &&& 31)) / v2 * v2) 4) + (1 : Int32)) * ((opDrawer A.1.1 (((cellV Lb xs (11 + v4)) >>> (2 &&& 31)) - ((cellV Lb xs (11 + v4)) >>> (2 &&& 31)) / v2 * v2) 4) + (1 : Int32))))) → (∀ (x12 : Int32) (A12 : Ab), opLay A6 v4 (((cellV Lb xs (11 + v4)) >>> (2 &&& 31)) - ((cellV Lb xs (11 + v4)) >>> (2 &&& 31)) / v2 * v2) (((cellV Lb xs (11 + v4)) >>> (8 &&& 31)) - ((cellV Lb xs (11 + v4)) >>> (8 &&& 31)) / ((opDrawer A.1.1 (((cellV Lb xs (11 + v4)) >>> (2 &&& 31)) - ((cellV Lb xs (11 + v4)) >>> (2 &&& 31)) / v2 * v2) 4) + (1 : Int32)) * ((opDrawer A.1.1 (((cellV Lb xs (11 + v4)) >>> (2 &&& 31)) - ((cellV Lb xs (11 + v4)) >>> (2 &&& 31)) / v2 * v2) 4) + (1 : Int32))) = (x12, A12) → (((¬ (x12 = (-5))) → (EA (some (Lb, xs)) (e + 8) nL_builds 157 [(0, .ref 0), (1, .retAddr 0), (2, .int v2), (3, .int 0), (4, .int (v4 + 1))] [] A12 Q)) ∧ (¬ (¬ (x12 = (-5))) → (EA (some (Lb, xs)) (e + 8) nL_builds 157 [(0, .ref 0), (1, .retAddr 0), (2, .int v2), (3, .int 1), (4, .int (v4 + 1))] [] A12 Q))))))))))))))))))))) : EA (some (Lb, xs)) (e + 8) nL_builds 157 [(0, .ref 0), (1, .retAddr 0), (2, .int v2), (3, .int v3), (4, .int v4)] [] A Q := by
  intro M h D hI
  refine ev_iload (pc1 := 159) rfl (TBof tbs_74 _ rfl) rfl ?_
  refine ev_bipush (pc1 := 161) (x := 12) (by decide) (TBof tbs_74 _ rfl) rfl ?_
  refine ev_icmp (pc1 := 164) (t := 275) (TBof tbs_74 _ rfl) (by decide) rfl (fun c1 => ?_) (fun c1 => ?_)
  · replace H := H.1 c1
    refine ev_iload_n (pc1 := 276) rfl (TBof tbs_74 _ rfl) rfl ?_
    exact ev_ireturn (TBof tbs_74 _ rfl) (retI_z rt_74 H.1) ⟨_, rfl, _, H.2, hI⟩
  · replace H := H.2 c1
    refine ev_iload_n (pc1 := 165) rfl (TBof tbs_74 _ rfl) rfl ?_
    refine ev_if (pc1 := 168) (t := 275) (TBof tbs_74 _ rfl) (by decide) rfl (fun c2 => ?_) (fun c2 => ?_)
    · replace H := H.1 c2
      refine ev_iload_n (pc1 := 276) rfl (TBof tbs_74 _ rfl) rfl ?_
      exact ev_ireturn (TBof tbs_74 _ rfl) (retI_z rt_74 H.1) ⟨_, rfl, _, H.2, hI⟩
    · replace H := H.2 c2
      refine ev_aload_n (pc1 := 169) rfl rfl (TBof tbs_74 _ rfl) rfl ?_
      refine ev_bipush (pc1 := 171) (x := 11) (by decide) (TBof tbs_74 _ rfl) rfl ?_
      refine ev_iload (pc1 := 173) rfl (TBof tbs_74 _ rfl) rfl ?_
      refine ev_iadd (pc1 := 174) (TBof tbs_74 _ rfl) rfl ?_
      refine ev_callsS (pc1 := 177) (as := [.retAddr 0, .int (11 + v4)]) (r := []) (TBof tbs_74 _ rfl) rfl (lnkof mo_74 ln_7_52) (Or.inl rfl) rfl na_70 (Nat.le_of_ble_eq_true rfl) (CN_cell hLb H.1 hI) (fun x3 M3 h3 D3 ⟨e3, hI⟩ => ?_)
      subst e3
      replace H := H.2
      refine ev_istore (pc1 := 179) (L1 := [(5, .int (cellV Lb xs (11 + v4))), (0, .ref 0), (1, .retAddr 0), (2, .int v2), (3, .int v3), (4, .int v4)]) (by rw [ml_74]; decide) rfl (TBof tbs_74 _ rfl) rfl ?_
      refine ev_iload (pc1 := 181) rfl (TBof tbs_74 _ rfl) rfl ?_
      refine ev_iconst (pc1 := 182) (x := 2) (by decide) (TBof tbs_74 _ rfl) rfl ?_
      refine ev_ishr (pc1 := 183) (TBof tbs_74 _ rfl) rfl ?_
      refine ev_iload_n (pc1 := 184) rfl (TBof tbs_74 _ rfl) rfl ?_
      refine ev_irem (pc1 := 185) H.1 (TBof tbs_74 _ rfl) rfl ?_
      replace H := H.2
      refine ev_istore (pc1 := 187) (L1 := [(6, .int (((cellV Lb xs (11 + v4)) >>> (2 &&& 31)) - ((cellV Lb xs (11 + v4)) >>> (2 &&& 31)) / v2 * v2)), (5, .int (cellV Lb xs (11 + v4))), (0, .ref 0), (1, .retAddr 0), (2, .int v2), (3, .int v3), (4, .int v4)]) (by rw [ml_74]; decide) rfl (TBof tbs_74 _ rfl) rfl ?_
      refine ev_iload (pc1 := 189) rfl (TBof tbs_74 _ rfl) rfl ?_
      refine ev_bipush (pc1 := 191) (x := 8) (by decide) (TBof tbs_74 _ rfl) rfl ?_
      refine ev_ishr (pc1 := 192) (TBof tbs_74 _ rfl) rfl ?_
      refine ev_aload_n (pc1 := 193) rfl rfl (TBof tbs_74 _ rfl) rfl ?_
      refine ev_iload (pc1 := 195) rfl (TBof tbs_74 _ rfl) rfl ?_
      refine ev_iconst (pc1 := 196) (x := 4) (by decide) (TBof tbs_74 _ rfl) rfl ?_
      refine ev_callvI (pc1 := 199) (as := [.int (((cellV Lb xs (11 + v4)) >>> (2 &&& 31)) - ((cellV Lb xs (11 + v4)) >>> (2 &&& 31)) / v2 * v2), .int 4]) (r := [.int ((cellV Lb xs (11 + v4)) >>> (8 &&& 31))]) (TBof tbs_74 _ rfl) rfl (lnkof mo_74 ln_7_27) rfl na_50 ltc_0 (sh_0.trans (by rw [mo_50])) (Nat.le_of_ble_eq_true rfl) (CN_drawer hw hI) (fun x4 M4 h4 D4 ⟨e4, hI⟩ => ?_)
      subst e4
      refine ev_iconst (pc1 := 200) (x := 1) (by decide) (TBof tbs_74 _ rfl) rfl ?_
      refine ev_iadd (pc1 := 201) (TBof tbs_74 _ rfl) rfl ?_
      refine ev_irem (pc1 := 202) H.1 (TBof tbs_74 _ rfl) rfl ?_
      replace H := H.2
      refine ev_istore (pc1 := 204) (L1 := [(7, .int (((cellV Lb xs (11 + v4)) >>> (8 &&& 31)) - ((cellV Lb xs (11 + v4)) >>> (8 &&& 31)) / ((opDrawer A.1.1 (((cellV Lb xs (11 + v4)) >>> (2 &&& 31)) - ((cellV Lb xs (11 + v4)) >>> (2 &&& 31)) / v2 * v2) 4) + (1 : Int32)) * ((opDrawer A.1.1 (((cellV Lb xs (11 + v4)) >>> (2 &&& 31)) - ((cellV Lb xs (11 + v4)) >>> (2 &&& 31)) / v2 * v2) 4) + (1 : Int32)))), (6, .int (((cellV Lb xs (11 + v4)) >>> (2 &&& 31)) - ((cellV Lb xs (11 + v4)) >>> (2 &&& 31)) / v2 * v2)), (5, .int (cellV Lb xs (11 + v4))), (0, .ref 0), (1, .retAddr 0), (2, .int v2), (3, .int v3), (4, .int v4)]) (by rw [ml_74]; decide) rfl (TBof tbs_74 _ rfl) rfl ?_
      refine ev_iload (pc1 := 206) rfl (TBof tbs_74 _ rfl) rfl ?_
      refine ev_iconst (pc1 := 207) (x := 4) (by decide) (TBof tbs_74 _ rfl) rfl ?_
      refine ev_irem (pc1 := 208) H.1 (TBof tbs_74 _ rfl) rfl ?_
      replace H := H.2
      refine ev_if (pc1 := 211) (t := 263) (TBof tbs_74 _ rfl) (by decide) rfl (fun c5 => ?_) (fun c5 => ?_)
      · replace H := H.1 c5
        refine ev_iconst (pc1 := 264) (x := 1) (by decide) (TBof tbs_74 _ rfl) rfl ?_
        refine ev_goto (pc1 := 268) (TBof tbs_74 _ rfl) (by decide) ?_
        refine ev_istore_n (pc1 := 269) (L1 := [(3, .int 1), (7, .int (((cellV Lb xs (11 + v4)) >>> (8 &&& 31)) - ((cellV Lb xs (11 + v4)) >>> (8 &&& 31)) / ((opDrawer A.1.1 (((cellV Lb xs (11 + v4)) >>> (2 &&& 31)) - ((cellV Lb xs (11 + v4)) >>> (2 &&& 31)) / v2 * v2) 4) + (1 : Int32)) * ((opDrawer A.1.1 (((cellV Lb xs (11 + v4)) >>> (2 &&& 31)) - ((cellV Lb xs (11 + v4)) >>> (2 &&& 31)) / v2 * v2) 4) + (1 : Int32)))), (6, .int (((cellV Lb xs (11 + v4)) >>> (2 &&& 31)) - ((cellV Lb xs (11 + v4)) >>> (2 &&& 31)) / v2 * v2)), (5, .int (cellV Lb xs (11 + v4))), (0, .ref 0), (1, .retAddr 0), (2, .int v2), (4, .int v4)]) (by rw [ml_74]; decide) rfl (TBof tbs_74 _ rfl) rfl ?_
        refine ev_iinc (pc1 := 272) (n := 4) (c := 1) (x := v4) (cc := 1) (L1 := [(4, .int (v4 + 1)), (3, .int 1), (7, .int (((cellV Lb xs (11 + v4)) >>> (8 &&& 31)) - ((cellV Lb xs (11 + v4)) >>> (8 &&& 31)) / ((opDrawer A.1.1 (((cellV Lb xs (11 + v4)) >>> (2 &&& 31)) - ((cellV Lb xs (11 + v4)) >>> (2 &&& 31)) / v2 * v2) 4) + (1 : Int32)) * ((opDrawer A.1.1 (((cellV Lb xs (11 + v4)) >>> (2 &&& 31)) - ((cellV Lb xs (11 + v4)) >>> (2 &&& 31)) / v2 * v2) 4) + (1 : Int32)))), (6, .int (((cellV Lb xs (11 + v4)) >>> (2 &&& 31)) - ((cellV Lb xs (11 + v4)) >>> (2 &&& 31)) / v2 * v2)), (5, .int (cellV Lb xs (11 + v4))), (0, .ref 0), (1, .retAddr 0), (2, .int v2)]) rfl (by rw [ml_74]; decide) (by decide) rfl (TBof tbs_74 _ rfl) rfl ?_
        refine ev_goto (pc1 := 157) (TBof tbs_74 _ rfl) (by decide) ?_
        exact ev_le [5, 6, 7, 1, 0] rfl rfl (H _ _ _ hI)
      · replace H := H.2 c5
        refine ev_aload_n (pc1 := 212) rfl rfl (TBof tbs_74 _ rfl) rfl ?_
        refine ev_iload (pc1 := 214) rfl (TBof tbs_74 _ rfl) rfl ?_
        refine ev_iload (pc1 := 216) rfl (TBof tbs_74 _ rfl) rfl ?_
        refine ev_iload (pc1 := 218) rfl (TBof tbs_74 _ rfl) rfl ?_
        refine ev_callvI (pc1 := 221) (as := [.int v4, .int (((cellV Lb xs (11 + v4)) >>> (2 &&& 31)) - ((cellV Lb xs (11 + v4)) >>> (2 &&& 31)) / v2 * v2), .int (((cellV Lb xs (11 + v4)) >>> (8 &&& 31)) - ((cellV Lb xs (11 + v4)) >>> (8 &&& 31)) / ((opDrawer A.1.1 (((cellV Lb xs (11 + v4)) >>> (2 &&& 31)) - ((cellV Lb xs (11 + v4)) >>> (2 &&& 31)) / v2 * v2) 4) + (1 : Int32)) * ((opDrawer A.1.1 (((cellV Lb xs (11 + v4)) >>> (2 &&& 31)) - ((cellV Lb xs (11 + v4)) >>> (2 &&& 31)) / v2 * v2) 4) + (1 : Int32)))]) (r := []) (TBof tbs_74 _ rfl) rfl (lnkof mo_74 ln_7_63) rfl na_41 ltc_0 (sh_0.trans (by rw [mo_41])) (Nat.le_of_ble_eq_true rfl) (CN_lay hw hI) (fun x6 M6 h6 D6 ⟨A6, q6, hI, hw⟩ => ?_)
        replace H := H x6 A6 q6
        refine ev_if (pc1 := 224) (t := 267) (TBof tbs_74 _ rfl) (by decide) rfl (fun c7 => ?_) (fun c7 => ?_)
        · replace H := H.1 c7
          refine ev_iconst (pc1 := 268) (x := 0) (by decide) (TBof tbs_74 _ rfl) rfl ?_
          refine ev_istore_n (pc1 := 269) (L1 := [(3, .int 0), (7, .int (((cellV Lb xs (11 + v4)) >>> (8 &&& 31)) - ((cellV Lb xs (11 + v4)) >>> (8 &&& 31)) / ((opDrawer A.1.1 (((cellV Lb xs (11 + v4)) >>> (2 &&& 31)) - ((cellV Lb xs (11 + v4)) >>> (2 &&& 31)) / v2 * v2) 4) + (1 : Int32)) * ((opDrawer A.1.1 (((cellV Lb xs (11 + v4)) >>> (2 &&& 31)) - ((cellV Lb xs (11 + v4)) >>> (2 &&& 31)) / v2 * v2) 4) + (1 : Int32)))), (6, .int (((cellV Lb xs (11 + v4)) >>> (2 &&& 31)) - ((cellV Lb xs (11 + v4)) >>> (2 &&& 31)) / v2 * v2)), (5, .int (cellV Lb xs (11 + v4))), (0, .ref 0), (1, .retAddr 0), (2, .int v2), (4, .int v4)]) (by rw [ml_74]; decide) rfl (TBof tbs_74 _ rfl) rfl ?_
          refine ev_iinc (pc1 := 272) (n := 4) (c := 1) (x := v4) (cc := 1) (L1 := [(4, .int (v4 + 1)), (3, .int 0), (7, .int (((cellV Lb xs (11 + v4)) >>> (8 &&& 31)) - ((cellV Lb xs (11 + v4)) >>> (8 &&& 31)) / ((opDrawer A.1.1 (((cellV Lb xs (11 + v4)) >>> (2 &&& 31)) - ((cellV Lb xs (11 + v4)) >>> (2 &&& 31)) / v2 * v2) 4) + (1 : Int32)) * ((opDrawer A.1.1 (((cellV Lb xs (11 + v4)) >>> (2 &&& 31)) - ((cellV Lb xs (11 + v4)) >>> (2 &&& 31)) / v2 * v2) 4) + (1 : Int32)))), (6, .int (((cellV Lb xs (11 + v4)) >>> (2 &&& 31)) - ((cellV Lb xs (11 + v4)) >>> (2 &&& 31)) / v2 * v2)), (5, .int (cellV Lb xs (11 + v4))), (0, .ref 0), (1, .retAddr 0), (2, .int v2)]) rfl (by rw [ml_74]; decide) (by decide) rfl (TBof tbs_74 _ rfl) rfl ?_
          refine ev_goto (pc1 := 157) (TBof tbs_74 _ rfl) (by decide) ?_
          exact ev_le [5, 6, 7, 1, 0] rfl rfl (H _ _ _ hI)
        · replace H := H.2 c7
          refine ev_aload_n (pc1 := 225) rfl rfl (TBof tbs_74 _ rfl) rfl ?_
          refine ev_iload (pc1 := 227) rfl (TBof tbs_74 _ rfl) rfl ?_
          refine ev_iconst (pc1 := 228) (x := 0) (by decide) (TBof tbs_74 _ rfl) rfl ?_
          refine ev_callvI (pc1 := 231) (as := [.int v4, .int 0]) (r := []) (TBof tbs_74 _ rfl) rfl (lnkof mo_74 ln_7_30) rfl na_51 ltc_0 (sh_0.trans (by rw [mo_51])) (Nat.le_of_ble_eq_true rfl) (CN_thing hw hI) (fun x8 M8 h8 D8 ⟨e8, hI⟩ => ?_)
          subst e8
          refine ev_iload (pc1 := 233) rfl (TBof tbs_74 _ rfl) rfl ?_
          refine ev_icmp (pc1 := 236) (t := 267) (TBof tbs_74 _ rfl) (by decide) rfl (fun c9 => ?_) (fun c9 => ?_)
          · replace H := H.1 c9
            refine ev_iconst (pc1 := 268) (x := 0) (by decide) (TBof tbs_74 _ rfl) rfl ?_
            refine ev_istore_n (pc1 := 269) (L1 := [(3, .int 0), (7, .int (((cellV Lb xs (11 + v4)) >>> (8 &&& 31)) - ((cellV Lb xs (11 + v4)) >>> (8 &&& 31)) / ((opDrawer A.1.1 (((cellV Lb xs (11 + v4)) >>> (2 &&& 31)) - ((cellV Lb xs (11 + v4)) >>> (2 &&& 31)) / v2 * v2) 4) + (1 : Int32)) * ((opDrawer A.1.1 (((cellV Lb xs (11 + v4)) >>> (2 &&& 31)) - ((cellV Lb xs (11 + v4)) >>> (2 &&& 31)) / v2 * v2) 4) + (1 : Int32)))), (6, .int (((cellV Lb xs (11 + v4)) >>> (2 &&& 31)) - ((cellV Lb xs (11 + v4)) >>> (2 &&& 31)) / v2 * v2)), (5, .int (cellV Lb xs (11 + v4))), (0, .ref 0), (1, .retAddr 0), (2, .int v2), (4, .int v4)]) (by rw [ml_74]; decide) rfl (TBof tbs_74 _ rfl) rfl ?_
            refine ev_iinc (pc1 := 272) (n := 4) (c := 1) (x := v4) (cc := 1) (L1 := [(4, .int (v4 + 1)), (3, .int 0), (7, .int (((cellV Lb xs (11 + v4)) >>> (8 &&& 31)) - ((cellV Lb xs (11 + v4)) >>> (8 &&& 31)) / ((opDrawer A.1.1 (((cellV Lb xs (11 + v4)) >>> (2 &&& 31)) - ((cellV Lb xs (11 + v4)) >>> (2 &&& 31)) / v2 * v2) 4) + (1 : Int32)) * ((opDrawer A.1.1 (((cellV Lb xs (11 + v4)) >>> (2 &&& 31)) - ((cellV Lb xs (11 + v4)) >>> (2 &&& 31)) / v2 * v2) 4) + (1 : Int32)))), (6, .int (((cellV Lb xs (11 + v4)) >>> (2 &&& 31)) - ((cellV Lb xs (11 + v4)) >>> (2 &&& 31)) / v2 * v2)), (5, .int (cellV Lb xs (11 + v4))), (0, .ref 0), (1, .retAddr 0), (2, .int v2)]) rfl (by rw [ml_74]; decide) (by decide) rfl (TBof tbs_74 _ rfl) rfl ?_
            refine ev_goto (pc1 := 157) (TBof tbs_74 _ rfl) (by decide) ?_
            exact ev_le [5, 6, 7, 1, 0] rfl rfl (H _ _ _ hI)
          · replace H := H.2 c9
            refine ev_aload_n (pc1 := 237) rfl rfl (TBof tbs_74 _ rfl) rfl ?_
            refine ev_iload (pc1 := 239) rfl (TBof tbs_74 _ rfl) rfl ?_
            refine ev_iconst (pc1 := 240) (x := 1) (by decide) (TBof tbs_74 _ rfl) rfl ?_
            refine ev_callvI (pc1 := 243) (as := [.int v4, .int 1]) (r := []) (TBof tbs_74 _ rfl) rfl (lnkof mo_74 ln_7_30) rfl na_51 ltc_0 (sh_0.trans (by rw [mo_51])) (Nat.le_of_ble_eq_true rfl) (CN_thing hw hI) (fun x10 M10 h10 D10 ⟨e10, hI⟩ => ?_)
            subst e10
            refine ev_iload (pc1 := 245) rfl (TBof tbs_74 _ rfl) rfl ?_
            refine ev_icmp (pc1 := 248) (t := 267) (TBof tbs_74 _ rfl) (by decide) rfl (fun c11 => ?_) (fun c11 => ?_)
            · replace H := H.1 c11
              refine ev_iconst (pc1 := 268) (x := 0) (by decide) (TBof tbs_74 _ rfl) rfl ?_
              refine ev_istore_n (pc1 := 269) (L1 := [(3, .int 0), (7, .int (((cellV Lb xs (11 + v4)) >>> (8 &&& 31)) - ((cellV Lb xs (11 + v4)) >>> (8 &&& 31)) / ((opDrawer A.1.1 (((cellV Lb xs (11 + v4)) >>> (2 &&& 31)) - ((cellV Lb xs (11 + v4)) >>> (2 &&& 31)) / v2 * v2) 4) + (1 : Int32)) * ((opDrawer A.1.1 (((cellV Lb xs (11 + v4)) >>> (2 &&& 31)) - ((cellV Lb xs (11 + v4)) >>> (2 &&& 31)) / v2 * v2) 4) + (1 : Int32)))), (6, .int (((cellV Lb xs (11 + v4)) >>> (2 &&& 31)) - ((cellV Lb xs (11 + v4)) >>> (2 &&& 31)) / v2 * v2)), (5, .int (cellV Lb xs (11 + v4))), (0, .ref 0), (1, .retAddr 0), (2, .int v2), (4, .int v4)]) (by rw [ml_74]; decide) rfl (TBof tbs_74 _ rfl) rfl ?_
              refine ev_iinc (pc1 := 272) (n := 4) (c := 1) (x := v4) (cc := 1) (L1 := [(4, .int (v4 + 1)), (3, .int 0), (7, .int (((cellV Lb xs (11 + v4)) >>> (8 &&& 31)) - ((cellV Lb xs (11 + v4)) >>> (8 &&& 31)) / ((opDrawer A.1.1 (((cellV Lb xs (11 + v4)) >>> (2 &&& 31)) - ((cellV Lb xs (11 + v4)) >>> (2 &&& 31)) / v2 * v2) 4) + (1 : Int32)) * ((opDrawer A.1.1 (((cellV Lb xs (11 + v4)) >>> (2 &&& 31)) - ((cellV Lb xs (11 + v4)) >>> (2 &&& 31)) / v2 * v2) 4) + (1 : Int32)))), (6, .int (((cellV Lb xs (11 + v4)) >>> (2 &&& 31)) - ((cellV Lb xs (11 + v4)) >>> (2 &&& 31)) / v2 * v2)), (5, .int (cellV Lb xs (11 + v4))), (0, .ref 0), (1, .retAddr 0), (2, .int v2)]) rfl (by rw [ml_74]; decide) (by decide) rfl (TBof tbs_74 _ rfl) rfl ?_
              refine ev_goto (pc1 := 157) (TBof tbs_74 _ rfl) (by decide) ?_
              exact ev_le [5, 6, 7, 1, 0] rfl rfl (H _ _ _ hI)
            · replace H := H.2 c11
              refine ev_aload_n (pc1 := 249) rfl rfl (TBof tbs_74 _ rfl) rfl ?_
              refine ev_iload (pc1 := 251) rfl (TBof tbs_74 _ rfl) rfl ?_
              refine ev_iload (pc1 := 253) rfl (TBof tbs_74 _ rfl) rfl ?_
              refine ev_iload (pc1 := 255) rfl (TBof tbs_74 _ rfl) rfl ?_
              refine ev_callvI (pc1 := 258) (as := [.int v4, .int (((cellV Lb xs (11 + v4)) >>> (2 &&& 31)) - ((cellV Lb xs (11 + v4)) >>> (2 &&& 31)) / v2 * v2), .int (((cellV Lb xs (11 + v4)) >>> (8 &&& 31)) - ((cellV Lb xs (11 + v4)) >>> (8 &&& 31)) / ((opDrawer A.1.1 (((cellV Lb xs (11 + v4)) >>> (2 &&& 31)) - ((cellV Lb xs (11 + v4)) >>> (2 &&& 31)) / v2 * v2) 4) + (1 : Int32)) * ((opDrawer A.1.1 (((cellV Lb xs (11 + v4)) >>> (2 &&& 31)) - ((cellV Lb xs (11 + v4)) >>> (2 &&& 31)) / v2 * v2) 4) + (1 : Int32)))]) (r := []) (TBof tbs_74 _ rfl) rfl (lnkof mo_74 ln_7_63) rfl na_41 ltc_0 (sh_0.trans (by rw [mo_41])) (Nat.le_of_ble_eq_true rfl) (CN_lay hw hI) (fun x12 M12 h12 D12 ⟨A12, q12, hI, hw⟩ => ?_)
              replace H := H x12 A12 q12
              refine ev_bipush (pc1 := 260) (x := (-5)) (by decide) (TBof tbs_74 _ rfl) rfl ?_
              refine ev_icmp (pc1 := 263) (t := 267) (TBof tbs_74 _ rfl) (by decide) rfl (fun c13 => ?_) (fun c13 => ?_)
              · replace H := H.1 c13
                refine ev_iconst (pc1 := 268) (x := 0) (by decide) (TBof tbs_74 _ rfl) rfl ?_
                refine ev_istore_n (pc1 := 269) (L1 := [(3, .int 0), (7, .int (((cellV Lb xs (11 + v4)) >>> (8 &&& 31)) - ((cellV Lb xs (11 + v4)) >>> (8 &&& 31)) / ((opDrawer A.1.1 (((cellV Lb xs (11 + v4)) >>> (2 &&& 31)) - ((cellV Lb xs (11 + v4)) >>> (2 &&& 31)) / v2 * v2) 4) + (1 : Int32)) * ((opDrawer A.1.1 (((cellV Lb xs (11 + v4)) >>> (2 &&& 31)) - ((cellV Lb xs (11 + v4)) >>> (2 &&& 31)) / v2 * v2) 4) + (1 : Int32)))), (6, .int (((cellV Lb xs (11 + v4)) >>> (2 &&& 31)) - ((cellV Lb xs (11 + v4)) >>> (2 &&& 31)) / v2 * v2)), (5, .int (cellV Lb xs (11 + v4))), (0, .ref 0), (1, .retAddr 0), (2, .int v2), (4, .int v4)]) (by rw [ml_74]; decide) rfl (TBof tbs_74 _ rfl) rfl ?_
                refine ev_iinc (pc1 := 272) (n := 4) (c := 1) (x := v4) (cc := 1) (L1 := [(4, .int (v4 + 1)), (3, .int 0), (7, .int (((cellV Lb xs (11 + v4)) >>> (8 &&& 31)) - ((cellV Lb xs (11 + v4)) >>> (8 &&& 31)) / ((opDrawer A.1.1 (((cellV Lb xs (11 + v4)) >>> (2 &&& 31)) - ((cellV Lb xs (11 + v4)) >>> (2 &&& 31)) / v2 * v2) 4) + (1 : Int32)) * ((opDrawer A.1.1 (((cellV Lb xs (11 + v4)) >>> (2 &&& 31)) - ((cellV Lb xs (11 + v4)) >>> (2 &&& 31)) / v2 * v2) 4) + (1 : Int32)))), (6, .int (((cellV Lb xs (11 + v4)) >>> (2 &&& 31)) - ((cellV Lb xs (11 + v4)) >>> (2 &&& 31)) / v2 * v2)), (5, .int (cellV Lb xs (11 + v4))), (0, .ref 0), (1, .retAddr 0), (2, .int v2)]) rfl (by rw [ml_74]; decide) (by decide) rfl (TBof tbs_74 _ rfl) rfl ?_
                refine ev_goto (pc1 := 157) (TBof tbs_74 _ rfl) (by decide) ?_
                exact ev_le [5, 6, 7, 1, 0] rfl rfl (H _ _ _ hI)
              · replace H := H.2 c13
                refine ev_iconst (pc1 := 264) (x := 1) (by decide) (TBof tbs_74 _ rfl) rfl ?_
                refine ev_goto (pc1 := 268) (TBof tbs_74 _ rfl) (by decide) ?_
                refine ev_istore_n (pc1 := 269) (L1 := [(3, .int 1), (7, .int (((cellV Lb xs (11 + v4)) >>> (8 &&& 31)) - ((cellV Lb xs (11 + v4)) >>> (8 &&& 31)) / ((opDrawer A.1.1 (((cellV Lb xs (11 + v4)) >>> (2 &&& 31)) - ((cellV Lb xs (11 + v4)) >>> (2 &&& 31)) / v2 * v2) 4) + (1 : Int32)) * ((opDrawer A.1.1 (((cellV Lb xs (11 + v4)) >>> (2 &&& 31)) - ((cellV Lb xs (11 + v4)) >>> (2 &&& 31)) / v2 * v2) 4) + (1 : Int32)))), (6, .int (((cellV Lb xs (11 + v4)) >>> (2 &&& 31)) - ((cellV Lb xs (11 + v4)) >>> (2 &&& 31)) / v2 * v2)), (5, .int (cellV Lb xs (11 + v4))), (0, .ref 0), (1, .retAddr 0), (2, .int v2), (4, .int v4)]) (by rw [ml_74]; decide) rfl (TBof tbs_74 _ rfl) rfl ?_
                refine ev_iinc (pc1 := 272) (n := 4) (c := 1) (x := v4) (cc := 1) (L1 := [(4, .int (v4 + 1)), (3, .int 1), (7, .int (((cellV Lb xs (11 + v4)) >>> (8 &&& 31)) - ((cellV Lb xs (11 + v4)) >>> (8 &&& 31)) / ((opDrawer A.1.1 (((cellV Lb xs (11 + v4)) >>> (2 &&& 31)) - ((cellV Lb xs (11 + v4)) >>> (2 &&& 31)) / v2 * v2) 4) + (1 : Int32)) * ((opDrawer A.1.1 (((cellV Lb xs (11 + v4)) >>> (2 &&& 31)) - ((cellV Lb xs (11 + v4)) >>> (2 &&& 31)) / v2 * v2) 4) + (1 : Int32)))), (6, .int (((cellV Lb xs (11 + v4)) >>> (2 &&& 31)) - ((cellV Lb xs (11 + v4)) >>> (2 &&& 31)) / v2 * v2)), (5, .int (cellV Lb xs (11 + v4))), (0, .ref 0), (1, .retAddr 0), (2, .int v2)]) rfl (by rw [ml_74]; decide) (by decide) rfl (TBof tbs_74 _ rfl) rfl ?_
                refine ev_goto (pc1 := 157) (TBof tbs_74 _ rfl) (by decide) ?_
                exact ev_le [5, 6, 7, 1, 0] rfl rfl (H _ _ _ hI)

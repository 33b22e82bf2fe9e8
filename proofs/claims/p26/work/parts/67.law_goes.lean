/-! what each block of the law asks: goes -/
set_option maxRecDepth 100000 in
theorem R_L_goes_0 {scr : Option (Nat × (Nat → Int32))} {e : Nat} {c : Nat} {A : Ab} {v1 : Int32} {Q : Int32 → Ab → Prop} (hc : c ≤ 400) (hw : wfA c A) (H : ((0 < (opNeeds (nOf A.1.1) A.1.1 v1 0)) → ((100 : Int32) ≠ 0 ∧ ((((opHint (nOf A.1.1) A.1.1 v1) < 100) → (EA scr (e + 8) nL_goes 75 [(0, .ref 0), (1, .int v1), (2, .int (opNeeds (nOf A.1.1) A.1.1 v1 0)), (3, .int (opHint (nOf A.1.1) A.1.1 v1)), (4, .int (opCount (nOf A.1.1) A 5)), (5, .double (mnd A.1.1 A.1.2)), (7, .int ((opHint (nOf A.1.1) A.1.1 v1) - (opHint (nOf A.1.1) A.1.1 v1) / 100 * 100))] [.int 0] A Q)) ∧ (¬ ((opHint (nOf A.1.1) A.1.1 v1) < 100) → (((400 ≤ (opHint (nOf A.1.1) A.1.1 v1)) → (EA scr (e + 8) nL_goes 75 [(0, .ref 0), (1, .int v1), (2, .int (opNeeds (nOf A.1.1) A.1.1 v1 0)), (3, .int (opHint (nOf A.1.1) A.1.1 v1)), (4, .int (opCount (nOf A.1.1) A 5)), (5, .double (mnd A.1.1 A.1.2)), (7, .int ((opHint (nOf A.1.1) A.1.1 v1) - (opHint (nOf A.1.1) A.1.1 v1) / 100 * 100))] [.int 0] A Q)) ∧ (¬ (400 ≤ (opHint (nOf A.1.1) A.1.1 v1)) → (EA scr (e + 8) nL_goes 75 [(0, .ref 0), (1, .int v1), (2, .int (opNeeds (nOf A.1.1) A.1.1 v1 0)), (3, .int (opHint (nOf A.1.1) A.1.1 v1)), (4, .int (opCount (nOf A.1.1) A 5)), (5, .double (mnd A.1.1 A.1.2)), (7, .int ((opHint (nOf A.1.1) A.1.1 v1) - (opHint (nOf A.1.1) A.1.1 v1) / 100 * 100))] [.int 1] A Q))))))) ∧ (¬ (0 < (opNeeds (nOf A.1.1) A.1.1 v1 0)) → (((¬ ((opNeeds (nOf A.1.1) A.1.1 v1 0) = 0)) → (((¬ ((opHint (nOf A.1.1) A.1.1 v1) = (-4))) → (Q 0 A)) ∧ (¬ (¬ ((opHint (nOf A.1.1) A.1.1 v1) = (-4))) → (Q 1 A)))) ∧ (¬ (¬ ((opNeeds (nOf A.1.1) A.1.1 v1 0) = 0)) → (((¬ ((opHint (nOf A.1.1) A.1.1 v1) = (-5))) → (Q 0 A)) ∧ (¬ (¬ ((opHint (nOf A.1.1) A.1.1 v1) = (-5))) → (Q 1 A))))))) : EA scr (e + 8) nL_goes 0 [(0, .ref 0), (1, .int v1)] [] A Q := by
  intro M h D hI
  refine ev_aload_n (pc1 := 1) rfl rfl (TBof tbs_73 _ rfl) rfl ?_
  refine ev_iload_n (pc1 := 2) rfl (TBof tbs_73 _ rfl) rfl ?_
  refine ev_iconst (pc1 := 3) (x := 0) (by decide) (TBof tbs_73 _ rfl) rfl ?_
  refine ev_callvI (pc1 := 6) (as := [.int v1, .int 0]) (r := []) (TBof tbs_73 _ rfl) rfl (lnkof mo_73 ln_7_9) rfl na_52 ltc_0 (sh_0.trans (by rw [mo_52])) (Nat.le_of_ble_eq_true rfl) (CN_needs hw hI) (fun x1 M1 h1 D1 ⟨e1, hI⟩ => ?_)
  subst e1
  refine ev_istore_n (pc1 := 7) (L1 := [(2, .int (opNeeds (nOf A.1.1) A.1.1 v1 0)), (0, .ref 0), (1, .int v1)]) (by rw [ml_73]; decide) rfl (TBof tbs_73 _ rfl) rfl ?_
  refine ev_aload_n (pc1 := 8) rfl rfl (TBof tbs_73 _ rfl) rfl ?_
  refine ev_iload_n (pc1 := 9) rfl (TBof tbs_73 _ rfl) rfl ?_
  refine ev_callvI (pc1 := 12) (as := [.int v1]) (r := []) (TBof tbs_73 _ rfl) rfl (lnkof mo_73 ln_7_15) rfl na_53 ltc_0 (sh_0.trans (by rw [mo_53])) (Nat.le_of_ble_eq_true rfl) (CN_hint hw hI) (fun x2 M2 h2 D2 ⟨e2, hI⟩ => ?_)
  subst e2
  refine ev_istore_n (pc1 := 13) (L1 := [(3, .int (opHint (nOf A.1.1) A.1.1 v1)), (2, .int (opNeeds (nOf A.1.1) A.1.1 v1 0)), (0, .ref 0), (1, .int v1)]) (by rw [ml_73]; decide) rfl (TBof tbs_73 _ rfl) rfl ?_
  refine ev_aload_n (pc1 := 14) rfl rfl (TBof tbs_73 _ rfl) rfl ?_
  refine ev_iconst (pc1 := 15) (x := 5) (by decide) (TBof tbs_73 _ rfl) rfl ?_
  refine ev_callvI (pc1 := 18) (as := [.int 5]) (r := []) (TBof tbs_73 _ rfl) rfl (lnkof mo_73 ln_7_24) rfl na_56 ltc_0 (sh_0.trans (by rw [mo_56])) (Nat.le_of_ble_eq_true rfl) (CN_count hw hI) (fun x3 M3 h3 D3 ⟨e3, hI⟩ => ?_)
  subst e3
  refine ev_istore (pc1 := 20) (L1 := [(4, .int (opCount (nOf A.1.1) A 5)), (3, .int (opHint (nOf A.1.1) A.1.1 v1)), (2, .int (opNeeds (nOf A.1.1) A.1.1 v1 0)), (0, .ref 0), (1, .int v1)]) (by rw [ml_73]; decide) rfl (TBof tbs_73 _ rfl) rfl ?_
  refine ev_aload_n (pc1 := 21) rfl rfl (TBof tbs_73 _ rfl) rfl ?_
  refine ev_callvD (pc1 := 24) (as := []) (r := []) (TBof tbs_73 _ rfl) rfl (lnkof mo_73 ln_7_33) rfl na_54 ltc_0 (sh_0.trans (by rw [mo_54])) (Nat.le_of_ble_eq_true rfl) (CN_minutes (by omega) hw hI) (fun x4 M4 h4 D4 ⟨e4, hI⟩ => ?_)
  subst e4
  refine ev_dstore (pc1 := 26) (L1 := [(5, .double (mnd A.1.1 A.1.2)), (4, .int (opCount (nOf A.1.1) A 5)), (3, .int (opHint (nOf A.1.1) A.1.1 v1)), (2, .int (opNeeds (nOf A.1.1) A.1.1 v1 0)), (0, .ref 0), (1, .int v1)]) (by rw [ml_73]; decide) rfl (TBof tbs_73 _ rfl) rfl ?_
  refine ev_iload_n (pc1 := 27) rfl (TBof tbs_73 _ rfl) rfl ?_
  refine ev_if (pc1 := 30) (t := 51) (TBof tbs_73 _ rfl) (by decide) rfl (fun c5 => ?_) (fun c5 => ?_)
  · replace H := H.1 c5
    refine ev_iload_n (pc1 := 52) rfl (TBof tbs_73 _ rfl) rfl ?_
    refine ev_bipush (pc1 := 54) (x := 100) (by decide) (TBof tbs_73 _ rfl) rfl ?_
    refine ev_irem (pc1 := 55) H.1 (TBof tbs_73 _ rfl) rfl ?_
    replace H := H.2
    refine ev_istore (pc1 := 57) (L1 := [(7, .int ((opHint (nOf A.1.1) A.1.1 v1) - (opHint (nOf A.1.1) A.1.1 v1) / 100 * 100)), (5, .double (mnd A.1.1 A.1.2)), (4, .int (opCount (nOf A.1.1) A 5)), (3, .int (opHint (nOf A.1.1) A.1.1 v1)), (2, .int (opNeeds (nOf A.1.1) A.1.1 v1 0)), (0, .ref 0), (1, .int v1)]) (by rw [ml_73]; decide) rfl (TBof tbs_73 _ rfl) rfl ?_
    refine ev_iload_n (pc1 := 58) rfl (TBof tbs_73 _ rfl) rfl ?_
    refine ev_bipush (pc1 := 60) (x := 100) (by decide) (TBof tbs_73 _ rfl) rfl ?_
    refine ev_icmp (pc1 := 63) (t := 74) (TBof tbs_73 _ rfl) (by decide) rfl (fun c6 => ?_) (fun c6 => ?_)
    · replace H := H.1 c6
      refine ev_iconst (pc1 := 75) (x := 0) (by decide) (TBof tbs_73 _ rfl) rfl ?_
      exact ev_le [5, 6, 4, 3, 2, 1, 0] rfl rfl (H _ _ _ hI)
    · replace H := H.2 c6
      refine ev_iload_n (pc1 := 64) rfl (TBof tbs_73 _ rfl) rfl ?_
      refine ev_sipush (pc1 := 67) (x := 400) (by decide) (TBof tbs_73 _ rfl) rfl ?_
      refine ev_icmp (pc1 := 70) (t := 74) (TBof tbs_73 _ rfl) (by decide) rfl (fun c7 => ?_) (fun c7 => ?_)
      · replace H := H.1 c7
        refine ev_iconst (pc1 := 75) (x := 0) (by decide) (TBof tbs_73 _ rfl) rfl ?_
        exact ev_le [5, 6, 4, 3, 2, 1, 0] rfl rfl (H _ _ _ hI)
      · replace H := H.2 c7
        refine ev_iconst (pc1 := 71) (x := 1) (by decide) (TBof tbs_73 _ rfl) rfl ?_
        refine ev_goto (pc1 := 75) (TBof tbs_73 _ rfl) (by decide) ?_
        exact ev_le [5, 6, 4, 3, 2, 1, 0] rfl rfl (H _ _ _ hI)
  · replace H := H.2 c5
    refine ev_iload_n (pc1 := 31) rfl (TBof tbs_73 _ rfl) rfl ?_
    refine ev_iload_n (pc1 := 32) rfl (TBof tbs_73 _ rfl) rfl ?_
    refine ev_if (pc1 := 35) (t := 40) (TBof tbs_73 _ rfl) (by decide) rfl (fun c8 => ?_) (fun c8 => ?_)
    · replace H := H.1 c8
      refine ev_bipush (pc1 := 42) (x := (-4)) (by decide) (TBof tbs_73 _ rfl) rfl ?_
      refine ev_icmp (pc1 := 45) (t := 49) (TBof tbs_73 _ rfl) (by decide) rfl (fun c9 => ?_) (fun c9 => ?_)
      · replace H := H.1 c9
        refine ev_iconst (pc1 := 50) (x := 0) (by decide) (TBof tbs_73 _ rfl) rfl ?_
        exact ev_ireturn (TBof tbs_73 _ rfl) (retI_z rt_73 (Or.inl rfl)) ⟨_, rfl, _, H, hI⟩
      · replace H := H.2 c9
        refine ev_iconst (pc1 := 46) (x := 1) (by decide) (TBof tbs_73 _ rfl) rfl ?_
        refine ev_goto (pc1 := 50) (TBof tbs_73 _ rfl) (by decide) ?_
        exact ev_ireturn (TBof tbs_73 _ rfl) (retI_z rt_73 (Or.inr rfl)) ⟨_, rfl, _, H, hI⟩
    · replace H := H.2 c8
      refine ev_bipush (pc1 := 37) (x := (-5)) (by decide) (TBof tbs_73 _ rfl) rfl ?_
      refine ev_goto (pc1 := 42) (TBof tbs_73 _ rfl) (by decide) ?_
      refine ev_icmp (pc1 := 45) (t := 49) (TBof tbs_73 _ rfl) (by decide) rfl (fun c10 => ?_) (fun c10 => ?_)
      · replace H := H.1 c10
        refine ev_iconst (pc1 := 50) (x := 0) (by decide) (TBof tbs_73 _ rfl) rfl ?_
        exact ev_ireturn (TBof tbs_73 _ rfl) (retI_z rt_73 (Or.inl rfl)) ⟨_, rfl, _, H, hI⟩
      · replace H := H.2 c10
        refine ev_iconst (pc1 := 46) (x := 1) (by decide) (TBof tbs_73 _ rfl) rfl ?_
        refine ev_goto (pc1 := 50) (TBof tbs_73 _ rfl) (by decide) ?_
        exact ev_ireturn (TBof tbs_73 _ rfl) (retI_z rt_73 (Or.inr rfl)) ⟨_, rfl, _, H, hI⟩
set_option maxRecDepth 100000 in
theorem R_L_goes_75 {scr : Option (Nat × (Nat → Int32))} {e : Nat} {c : Nat} {A : Ab} {v1 v2 v3 v4 v7 s0 : Int32} {v5 : UInt64} {Q : Int32 → Ab → Prop} (hc : c ≤ 400) (hw : wfA c A) (H : ((s0 = 0) → (EA scr (e + 8) nL_goes 213 [(0, .ref 0), (1, .int v1), (2, .int v2), (3, .int v3), (4, .int v4), (5, .double v5), (7, .int v7), (8, .int s0)] [.int 0] A Q)) ∧ (¬ (s0 = 0) → (((200 ≤ v3) → (((300 ≤ v3) → (∀ (x4 : Int32) (A4 : Ab), opLift A v7 = (x4, A4) → (((x4 ≤ 0) → (EA scr (e + 8) nL_goes 213 [(0, .ref 0), (1, .int v1), (2, .int v2), (3, .int v3), (4, .int v4), (5, .double v5), (7, .int v7), (8, .int s0)] [.int 0] A4 Q)) ∧ (¬ (x4 ≤ 0) → (vf_n64 (FP.dadd v5 4612811918334230528) ∧ (((¬ ((Op.cmpValue (FP.dcmp (mnd A4.1.1 A4.1.2) (FP.dadd v5 4612811918334230528)) CmpOp.l) = 0)) → (EA scr (e + 8) nL_goes 213 [(0, .ref 0), (1, .int v1), (2, .int v2), (3, .int v3), (4, .int v4), (5, .double v5), (7, .int v7), (8, .int s0)] [.int 0] A4 Q)) ∧ (¬ (¬ ((Op.cmpValue (FP.dcmp (mnd A4.1.1 A4.1.2) (FP.dadd v5 4612811918334230528)) CmpOp.l) = 0)) → (EA scr (e + 8) nL_goes 213 [(0, .ref 0), (1, .int v1), (2, .int v2), (3, .int v3), (4, .int v4), (5, .double v5), (7, .int v7), (8, .int s0)] [.int 1] A4 Q)))))))) ∧ (¬ (300 ≤ v3) → (((¬ ((opThing A.1.1 v7 3) = 1)) → (EA scr (e + 8) nL_goes 213 [(0, .ref 0), (1, .int v1), (2, .int v2), (3, .int v3), (4, .int v4), (5, .double v5), (7, .int v7), (8, .int s0)] [.int 0] A Q)) ∧ (¬ (¬ ((opThing A.1.1 v7 3) = 1)) → (∀ (x10 : Int32) (A10 : Ab), opTake A v7 = (x10, A10) → (((x10 ≤ 0) → (EA scr (e + 8) nL_goes 213 [(0, .ref 0), (1, .int v1), (2, .int v2), (3, .int v3), (4, .int v4), (5, .double v5), (7, .int v7), (8, .int s0)] [.int 0] A10 Q)) ∧ (¬ (x10 ≤ 0) → (vf_n64 (FP.dadd v5 4598175219545276416) ∧ (((¬ ((Op.cmpValue (FP.dcmp (mnd A10.1.1 A10.1.2) (FP.dadd v5 4598175219545276416)) CmpOp.l) = 0)) → (EA scr (e + 8) nL_goes 213 [(0, .ref 0), (1, .int v1), (2, .int v2), (3, .int v3), (4, .int v4), (5, .double v5), (7, .int v7), (8, .int s0)] [.int 0] A10 Q)) ∧ (¬ (¬ ((Op.cmpValue (FP.dcmp (mnd A10.1.1 A10.1.2) (FP.dadd v5 4598175219545276416)) CmpOp.l) = 0)) → (EA scr (e + 8) nL_goes 213 [(0, .ref 0), (1, .int v1), (2, .int v2), (3, .int v3), (4, .int v4), (5, .double v5), (7, .int v7), (8, .int s0)] [.int 1] A10 Q)))))))))))) ∧ (¬ (200 ≤ v3) → (((¬ ((((opCount (nOf A.1.1) A 8) >>> (v7 &&& 31)) &&& 1) = 1)) → (EA scr (e + 8) nL_goes 213 [(0, .ref 0), (1, .int v1), (2, .int v2), (3, .int v3), (4, .int v4), (5, .double v5), (7, .int v7), (8, .int s0)] [.int 0] A Q)) ∧ (¬ (¬ ((((opCount (nOf A.1.1) A 8) >>> (v7 &&& 31)) &&& 1) = 1)) → (∀ (x16 : Int32) (A16 : Ab), opOpen A v7 = (x16, A16) → (((x16 ≤ 0) → (EA scr (e + 8) nL_goes 213 [(0, .ref 0), (1, .int v1), (2, .int v2), (3, .int v3), (4, .int v4), (5, .double v5), (7, .int v7), (8, .int s0)] [.int 0] A16 Q)) ∧ (¬ (x16 ≤ 0) → (vf_n64 (FP.ddiv (FP.i2d (opDrawer A16.1.1 v7 3)) 4616189618054758400) ∧ (vf_n64 (FP.dadd FP.dconst1 (FP.ddiv (FP.i2d (opDrawer A16.1.1 v7 3)) 4616189618054758400)) ∧ (vf_n64 (FP.dadd v5 (FP.dadd FP.dconst1 (FP.ddiv (FP.i2d (opDrawer A16.1.1 v7 3)) 4616189618054758400))) ∧ (((¬ ((Op.cmpValue (FP.dcmp (mnd A16.1.1 A16.1.2) (FP.dadd v5 (FP.dadd FP.dconst1 (FP.ddiv (FP.i2d (opDrawer A16.1.1 v7 3)) 4616189618054758400)))) CmpOp.l) = 0)) → (EA scr (e + 8) nL_goes 213 [(0, .ref 0), (1, .int v1), (2, .int v2), (3, .int v3), (4, .int v4), (5, .double v5), (7, .int v7), (8, .int s0)] [.int 0] A16 Q)) ∧ (¬ (¬ ((Op.cmpValue (FP.dcmp (mnd A16.1.1 A16.1.2) (FP.dadd v5 (FP.dadd FP.dconst1 (FP.ddiv (FP.i2d (opDrawer A16.1.1 v7 3)) 4616189618054758400)))) CmpOp.l) = 0)) → (EA scr (e + 8) nL_goes 213 [(0, .ref 0), (1, .int v1), (2, .int v2), (3, .int v3), (4, .int v4), (5, .double v5), (7, .int v7), (8, .int s0)] [.int 1] A16 Q))))))))))))))) : EA scr (e + 8) nL_goes 75 [(0, .ref 0), (1, .int v1), (2, .int v2), (3, .int v3), (4, .int v4), (5, .double v5), (7, .int v7)] [.int s0] A Q := by
  intro M h D hI
  refine ev_istore (pc1 := 77) (L1 := [(8, .int s0), (0, .ref 0), (1, .int v1), (2, .int v2), (3, .int v3), (4, .int v4), (5, .double v5), (7, .int v7)]) (by rw [ml_73]; decide) rfl (TBof tbs_73 _ rfl) rfl ?_
  refine ev_iload (pc1 := 79) rfl (TBof tbs_73 _ rfl) rfl ?_
  refine ev_if (pc1 := 82) (t := 212) (TBof tbs_73 _ rfl) (by decide) rfl (fun c1 => ?_) (fun c1 => ?_)
  · replace H := H.1 c1
    refine ev_iconst (pc1 := 213) (x := 0) (by decide) (TBof tbs_73 _ rfl) rfl ?_
    exact ev_le [1, 2, 3, 4, 5, 6, 7, 0] rfl rfl (H _ _ _ hI)
  · replace H := H.2 c1
    refine ev_iload_n (pc1 := 83) rfl (TBof tbs_73 _ rfl) rfl ?_
    refine ev_sipush (pc1 := 86) (x := 200) (by decide) (TBof tbs_73 _ rfl) rfl ?_
    refine ev_icmp (pc1 := 89) (t := 141) (TBof tbs_73 _ rfl) (by decide) rfl (fun c2 => ?_) (fun c2 => ?_)
    · replace H := H.1 c2
      refine ev_iload_n (pc1 := 142) rfl (TBof tbs_73 _ rfl) rfl ?_
      refine ev_sipush (pc1 := 145) (x := 300) (by decide) (TBof tbs_73 _ rfl) rfl ?_
      refine ev_icmp (pc1 := 148) (t := 185) (TBof tbs_73 _ rfl) (by decide) rfl (fun c3 => ?_) (fun c3 => ?_)
      · replace H := H.1 c3
        refine ev_aload_n (pc1 := 186) rfl rfl (TBof tbs_73 _ rfl) rfl ?_
        refine ev_iload (pc1 := 188) rfl (TBof tbs_73 _ rfl) rfl ?_
        refine ev_callvI (pc1 := 191) (as := [.int v7]) (r := []) (TBof tbs_73 _ rfl) rfl (lnkof mo_73 ln_7_47) rfl na_46 ltc_0 (sh_0.trans (by rw [mo_46])) (Nat.le_of_ble_eq_true rfl) (CN_lift hw hI) (fun x4 M4 h4 D4 ⟨A4, q4, hI, hw⟩ => ?_)
        replace H := H x4 A4 q4
        refine ev_if (pc1 := 194) (t := 212) (TBof tbs_73 _ rfl) (by decide) rfl (fun c5 => ?_) (fun c5 => ?_)
        · replace H := H.1 c5
          refine ev_iconst (pc1 := 213) (x := 0) (by decide) (TBof tbs_73 _ rfl) rfl ?_
          exact ev_le [1, 2, 3, 4, 5, 6, 7, 0] rfl rfl (H _ _ _ hI)
        · replace H := H.2 c5
          refine ev_aload_n (pc1 := 195) rfl rfl (TBof tbs_73 _ rfl) rfl ?_
          refine ev_callvD (pc1 := 198) (as := []) (r := []) (TBof tbs_73 _ rfl) rfl (lnkof mo_73 ln_7_33) rfl na_54 ltc_0 (sh_0.trans (by rw [mo_54])) (Nat.le_of_ble_eq_true rfl) (CN_minutes (by omega) hw hI) (fun x6 M6 h6 D6 ⟨e6, hI⟩ => ?_)
          subst e6
          refine ev_dload (pc1 := 200) rfl (TBof tbs_73 _ rfl) rfl ?_
          refine ev_ldc2_w (pc1 := 203) (x := 4612811918334230528) rfl (TBof tbs_73 _ rfl) rfl ?_
          refine ev_dadd (pc1 := 204) H.1 (TBof tbs_73 _ rfl) rfl ?_
          replace H := H.2
          refine ev_dcmp (pc1 := 205) (TBof tbs_73 _ rfl) rfl ?_
          refine ev_if (pc1 := 208) (t := 212) (TBof tbs_73 _ rfl) (by decide) rfl (fun c7 => ?_) (fun c7 => ?_)
          · replace H := H.1 c7
            refine ev_iconst (pc1 := 213) (x := 0) (by decide) (TBof tbs_73 _ rfl) rfl ?_
            exact ev_le [1, 2, 3, 4, 5, 6, 7, 0] rfl rfl (H _ _ _ hI)
          · replace H := H.2 c7
            refine ev_iconst (pc1 := 209) (x := 1) (by decide) (TBof tbs_73 _ rfl) rfl ?_
            refine ev_goto (pc1 := 213) (TBof tbs_73 _ rfl) (by decide) ?_
            exact ev_le [1, 2, 3, 4, 5, 6, 7, 0] rfl rfl (H _ _ _ hI)
      · replace H := H.2 c3
        refine ev_aload_n (pc1 := 149) rfl rfl (TBof tbs_73 _ rfl) rfl ?_
        refine ev_iload (pc1 := 151) rfl (TBof tbs_73 _ rfl) rfl ?_
        refine ev_iconst (pc1 := 152) (x := 3) (by decide) (TBof tbs_73 _ rfl) rfl ?_
        refine ev_callvI (pc1 := 155) (as := [.int v7, .int 3]) (r := []) (TBof tbs_73 _ rfl) rfl (lnkof mo_73 ln_7_30) rfl na_51 ltc_0 (sh_0.trans (by rw [mo_51])) (Nat.le_of_ble_eq_true rfl) (CN_thing hw hI) (fun x8 M8 h8 D8 ⟨e8, hI⟩ => ?_)
        subst e8
        refine ev_iconst (pc1 := 156) (x := 1) (by decide) (TBof tbs_73 _ rfl) rfl ?_
        refine ev_icmp (pc1 := 159) (t := 212) (TBof tbs_73 _ rfl) (by decide) rfl (fun c9 => ?_) (fun c9 => ?_)
        · replace H := H.1 c9
          refine ev_iconst (pc1 := 213) (x := 0) (by decide) (TBof tbs_73 _ rfl) rfl ?_
          exact ev_le [1, 2, 3, 4, 5, 6, 7, 0] rfl rfl (H _ _ _ hI)
        · replace H := H.2 c9
          refine ev_aload_n (pc1 := 160) rfl rfl (TBof tbs_73 _ rfl) rfl ?_
          refine ev_iload (pc1 := 162) rfl (TBof tbs_73 _ rfl) rfl ?_
          refine ev_callvI (pc1 := 165) (as := [.int v7]) (r := []) (TBof tbs_73 _ rfl) rfl (lnkof mo_73 ln_7_42) rfl na_47 ltc_0 (sh_0.trans (by rw [mo_47])) (Nat.le_of_ble_eq_true rfl) (CN_take hw hI) (fun x10 M10 h10 D10 ⟨A10, q10, hI, hw⟩ => ?_)
          replace H := H x10 A10 q10
          refine ev_if (pc1 := 168) (t := 212) (TBof tbs_73 _ rfl) (by decide) rfl (fun c11 => ?_) (fun c11 => ?_)
          · replace H := H.1 c11
            refine ev_iconst (pc1 := 213) (x := 0) (by decide) (TBof tbs_73 _ rfl) rfl ?_
            exact ev_le [1, 2, 3, 4, 5, 6, 7, 0] rfl rfl (H _ _ _ hI)
          · replace H := H.2 c11
            refine ev_aload_n (pc1 := 169) rfl rfl (TBof tbs_73 _ rfl) rfl ?_
            refine ev_callvD (pc1 := 172) (as := []) (r := []) (TBof tbs_73 _ rfl) rfl (lnkof mo_73 ln_7_33) rfl na_54 ltc_0 (sh_0.trans (by rw [mo_54])) (Nat.le_of_ble_eq_true rfl) (CN_minutes (by omega) hw hI) (fun x12 M12 h12 D12 ⟨e12, hI⟩ => ?_)
            subst e12
            refine ev_dload (pc1 := 174) rfl (TBof tbs_73 _ rfl) rfl ?_
            refine ev_ldc2_w (pc1 := 177) (x := 4598175219545276416) rfl (TBof tbs_73 _ rfl) rfl ?_
            refine ev_dadd (pc1 := 178) H.1 (TBof tbs_73 _ rfl) rfl ?_
            replace H := H.2
            refine ev_dcmp (pc1 := 179) (TBof tbs_73 _ rfl) rfl ?_
            refine ev_if (pc1 := 182) (t := 212) (TBof tbs_73 _ rfl) (by decide) rfl (fun c13 => ?_) (fun c13 => ?_)
            · replace H := H.1 c13
              refine ev_iconst (pc1 := 213) (x := 0) (by decide) (TBof tbs_73 _ rfl) rfl ?_
              exact ev_le [1, 2, 3, 4, 5, 6, 7, 0] rfl rfl (H _ _ _ hI)
            · replace H := H.2 c13
              refine ev_goto (pc1 := 208) (TBof tbs_73 _ rfl) (by decide) ?_
              refine ev_iconst (pc1 := 209) (x := 1) (by decide) (TBof tbs_73 _ rfl) rfl ?_
              refine ev_goto (pc1 := 213) (TBof tbs_73 _ rfl) (by decide) ?_
              exact ev_le [1, 2, 3, 4, 5, 6, 7, 0] rfl rfl (H _ _ _ hI)
    · replace H := H.2 c2
      refine ev_aload_n (pc1 := 90) rfl rfl (TBof tbs_73 _ rfl) rfl ?_
      refine ev_bipush (pc1 := 92) (x := 8) (by decide) (TBof tbs_73 _ rfl) rfl ?_
      refine ev_callvI (pc1 := 95) (as := [.int 8]) (r := []) (TBof tbs_73 _ rfl) rfl (lnkof mo_73 ln_7_24) rfl na_56 ltc_0 (sh_0.trans (by rw [mo_56])) (Nat.le_of_ble_eq_true rfl) (CN_count hw hI) (fun x14 M14 h14 D14 ⟨e14, hI⟩ => ?_)
      subst e14
      refine ev_iload (pc1 := 97) rfl (TBof tbs_73 _ rfl) rfl ?_
      refine ev_ishr (pc1 := 98) (TBof tbs_73 _ rfl) rfl ?_
      refine ev_iconst (pc1 := 99) (x := 1) (by decide) (TBof tbs_73 _ rfl) rfl ?_
      refine ev_iand (pc1 := 100) (TBof tbs_73 _ rfl) rfl ?_
      refine ev_iconst (pc1 := 101) (x := 1) (by decide) (TBof tbs_73 _ rfl) rfl ?_
      refine ev_icmp (pc1 := 104) (t := 212) (TBof tbs_73 _ rfl) (by decide) rfl (fun c15 => ?_) (fun c15 => ?_)
      · replace H := H.1 c15
        refine ev_iconst (pc1 := 213) (x := 0) (by decide) (TBof tbs_73 _ rfl) rfl ?_
        exact ev_le [1, 2, 3, 4, 5, 6, 7, 0] rfl rfl (H _ _ _ hI)
      · replace H := H.2 c15
        refine ev_aload_n (pc1 := 105) rfl rfl (TBof tbs_73 _ rfl) rfl ?_
        refine ev_iload (pc1 := 107) rfl (TBof tbs_73 _ rfl) rfl ?_
        refine ev_callvI (pc1 := 110) (as := [.int v7]) (r := []) (TBof tbs_73 _ rfl) rfl (lnkof mo_73 ln_7_37) rfl na_44 ltc_0 (sh_0.trans (by rw [mo_44])) (Nat.le_of_ble_eq_true rfl) (CN_open hw hI) (fun x16 M16 h16 D16 ⟨A16, q16, hI, hw⟩ => ?_)
        replace H := H x16 A16 q16
        refine ev_if (pc1 := 113) (t := 212) (TBof tbs_73 _ rfl) (by decide) rfl (fun c17 => ?_) (fun c17 => ?_)
        · replace H := H.1 c17
          refine ev_iconst (pc1 := 213) (x := 0) (by decide) (TBof tbs_73 _ rfl) rfl ?_
          exact ev_le [1, 2, 3, 4, 5, 6, 7, 0] rfl rfl (H _ _ _ hI)
        · replace H := H.2 c17
          refine ev_aload_n (pc1 := 114) rfl rfl (TBof tbs_73 _ rfl) rfl ?_
          refine ev_callvD (pc1 := 117) (as := []) (r := []) (TBof tbs_73 _ rfl) rfl (lnkof mo_73 ln_7_33) rfl na_54 ltc_0 (sh_0.trans (by rw [mo_54])) (Nat.le_of_ble_eq_true rfl) (CN_minutes (by omega) hw hI) (fun x18 M18 h18 D18 ⟨e18, hI⟩ => ?_)
          subst e18
          refine ev_dload (pc1 := 119) rfl (TBof tbs_73 _ rfl) rfl ?_
          refine ev_dconst1 (pc1 := 120) (TBof tbs_73 _ rfl) rfl ?_
          refine ev_aload_n (pc1 := 121) rfl rfl (TBof tbs_73 _ rfl) rfl ?_
          refine ev_iload (pc1 := 123) rfl (TBof tbs_73 _ rfl) rfl ?_
          refine ev_iconst (pc1 := 124) (x := 3) (by decide) (TBof tbs_73 _ rfl) rfl ?_
          refine ev_callvI (pc1 := 127) (as := [.int v7, .int 3]) (r := [.double FP.dconst1, .double v5, .double (mnd A16.1.1 A16.1.2)]) (TBof tbs_73 _ rfl) rfl (lnkof mo_73 ln_7_27) rfl na_50 ltc_0 (sh_0.trans (by rw [mo_50])) (Nat.le_of_ble_eq_true rfl) (CN_drawer hw hI) (fun x19 M19 h19 D19 ⟨e19, hI⟩ => ?_)
          subst e19
          refine ev_i2d (pc1 := 128) (TBof tbs_73 _ rfl) rfl ?_
          refine ev_ldc2_w (pc1 := 131) (x := 4616189618054758400) rfl (TBof tbs_73 _ rfl) rfl ?_
          refine ev_ddiv (pc1 := 132) H.1 (TBof tbs_73 _ rfl) rfl ?_
          replace H := H.2
          refine ev_dadd (pc1 := 133) H.1 (TBof tbs_73 _ rfl) rfl ?_
          replace H := H.2
          refine ev_dadd (pc1 := 134) H.1 (TBof tbs_73 _ rfl) rfl ?_
          replace H := H.2
          refine ev_dcmp (pc1 := 135) (TBof tbs_73 _ rfl) rfl ?_
          refine ev_if (pc1 := 138) (t := 212) (TBof tbs_73 _ rfl) (by decide) rfl (fun c20 => ?_) (fun c20 => ?_)
          · replace H := H.1 c20
            refine ev_iconst (pc1 := 213) (x := 0) (by decide) (TBof tbs_73 _ rfl) rfl ?_
            exact ev_le [1, 2, 3, 4, 5, 6, 7, 0] rfl rfl (H _ _ _ hI)
          · replace H := H.2 c20
            refine ev_goto (pc1 := 208) (TBof tbs_73 _ rfl) (by decide) ?_
            refine ev_iconst (pc1 := 209) (x := 1) (by decide) (TBof tbs_73 _ rfl) rfl ?_
            refine ev_goto (pc1 := 213) (TBof tbs_73 _ rfl) (by decide) ?_
            exact ev_le [1, 2, 3, 4, 5, 6, 7, 0] rfl rfl (H _ _ _ hI)
set_option maxRecDepth 100000 in
theorem R_L_goes_213 {scr : Option (Nat × (Nat → Int32))} {e : Nat} {c : Nat} {A : Ab} {v1 v2 v3 v4 v7 v8 s0 : Int32} {v5 : UInt64} {Q : Int32 → Ab → Prop} (hc : c ≤ 400) (hw : wfA c A) (H : ((s0 = 0) → (Q 0 A)) ∧ (¬ (s0 = 0) → (((¬ ((opNeeds (nOf A.1.1) A.1.1 v1 0) = (v2 - 1))) → (Q 0 A)) ∧ (¬ (¬ ((opNeeds (nOf A.1.1) A.1.1 v1 0) = (v2 - 1))) → (((¬ ((opCount (nOf A.1.1) A 5) = (v4 + 1))) → (Q 0 A)) ∧ (¬ (¬ ((opCount (nOf A.1.1) A 5) = (v4 + 1))) → (Q 1 A))))))) : EA scr (e + 8) nL_goes 213 [(0, .ref 0), (1, .int v1), (2, .int v2), (3, .int v3), (4, .int v4), (5, .double v5), (7, .int v7), (8, .int v8)] [.int s0] A Q := by
  intro M h D hI
  refine ev_istore (pc1 := 215) (L1 := [(8, .int s0), (0, .ref 0), (1, .int v1), (2, .int v2), (3, .int v3), (4, .int v4), (5, .double v5), (7, .int v7)]) (by rw [ml_73]; decide) rfl (TBof tbs_73 _ rfl) rfl ?_
  refine ev_iload (pc1 := 217) rfl (TBof tbs_73 _ rfl) rfl ?_
  refine ev_if (pc1 := 220) (t := 248) (TBof tbs_73 _ rfl) (by decide) rfl (fun c1 => ?_) (fun c1 => ?_)
  · replace H := H.1 c1
    refine ev_iconst (pc1 := 249) (x := 0) (by decide) (TBof tbs_73 _ rfl) rfl ?_
    exact ev_ireturn (TBof tbs_73 _ rfl) (retI_z rt_73 (Or.inl rfl)) ⟨_, rfl, _, H, hI⟩
  · replace H := H.2 c1
    refine ev_aload_n (pc1 := 221) rfl rfl (TBof tbs_73 _ rfl) rfl ?_
    refine ev_iload_n (pc1 := 222) rfl (TBof tbs_73 _ rfl) rfl ?_
    refine ev_iconst (pc1 := 223) (x := 0) (by decide) (TBof tbs_73 _ rfl) rfl ?_
    refine ev_callvI (pc1 := 226) (as := [.int v1, .int 0]) (r := []) (TBof tbs_73 _ rfl) rfl (lnkof mo_73 ln_7_9) rfl na_52 ltc_0 (sh_0.trans (by rw [mo_52])) (Nat.le_of_ble_eq_true rfl) (CN_needs hw hI) (fun x2 M2 h2 D2 ⟨e2, hI⟩ => ?_)
    subst e2
    refine ev_iload_n (pc1 := 227) rfl (TBof tbs_73 _ rfl) rfl ?_
    refine ev_iconst (pc1 := 228) (x := 1) (by decide) (TBof tbs_73 _ rfl) rfl ?_
    refine ev_isub (pc1 := 229) (TBof tbs_73 _ rfl) rfl ?_
    refine ev_icmp (pc1 := 232) (t := 248) (TBof tbs_73 _ rfl) (by decide) rfl (fun c3 => ?_) (fun c3 => ?_)
    · replace H := H.1 c3
      refine ev_iconst (pc1 := 249) (x := 0) (by decide) (TBof tbs_73 _ rfl) rfl ?_
      exact ev_ireturn (TBof tbs_73 _ rfl) (retI_z rt_73 (Or.inl rfl)) ⟨_, rfl, _, H, hI⟩
    · replace H := H.2 c3
      refine ev_aload_n (pc1 := 233) rfl rfl (TBof tbs_73 _ rfl) rfl ?_
      refine ev_iconst (pc1 := 234) (x := 5) (by decide) (TBof tbs_73 _ rfl) rfl ?_
      refine ev_callvI (pc1 := 237) (as := [.int 5]) (r := []) (TBof tbs_73 _ rfl) rfl (lnkof mo_73 ln_7_24) rfl na_56 ltc_0 (sh_0.trans (by rw [mo_56])) (Nat.le_of_ble_eq_true rfl) (CN_count hw hI) (fun x4 M4 h4 D4 ⟨e4, hI⟩ => ?_)
      subst e4
      refine ev_iload (pc1 := 239) rfl (TBof tbs_73 _ rfl) rfl ?_
      refine ev_iconst (pc1 := 240) (x := 1) (by decide) (TBof tbs_73 _ rfl) rfl ?_
      refine ev_iadd (pc1 := 241) (TBof tbs_73 _ rfl) rfl ?_
      refine ev_icmp (pc1 := 244) (t := 248) (TBof tbs_73 _ rfl) (by decide) rfl (fun c5 => ?_) (fun c5 => ?_)
      · replace H := H.1 c5
        refine ev_iconst (pc1 := 249) (x := 0) (by decide) (TBof tbs_73 _ rfl) rfl ?_
        exact ev_ireturn (TBof tbs_73 _ rfl) (retI_z rt_73 (Or.inl rfl)) ⟨_, rfl, _, H, hI⟩
      · replace H := H.2 c5
        refine ev_iconst (pc1 := 245) (x := 1) (by decide) (TBof tbs_73 _ rfl) rfl ?_
        refine ev_goto (pc1 := 249) (TBof tbs_73 _ rfl) (by decide) ?_
        exact ev_ireturn (TBof tbs_73 _ rfl) (retI_z rt_73 (Or.inr rfl)) ⟨_, rfl, _, H, hI⟩

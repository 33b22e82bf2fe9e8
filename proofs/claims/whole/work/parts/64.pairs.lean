/-! the pairs of calls, and the cases of the law -/
def PX (c : Nat) (op : Ab → Int32 × Ab) (y : Nat) (as : List Value) : Prop := ∀ M h D A, IX M h A → wfA c A → CI 9 y (.ref 0 :: as) M h D (fun x M1 h1 D1 => x = (op A).1 ∧ D1 = D ∧ IX M1 h1 (op A).2 ∧ FrX M M1)
def PM (c : Nat) (op : Ab → Int32 × Ab) (y : Nat) (as : List Value) : Prop := ∀ M h D A, IM M D A → wfA c A → CI 9 y (.ref 73 :: as) M h D (fun x M1 h1 D1 => x = (op A).1 ∧ h1 = h ∧ IM M1 D1 (op A).2 ∧ FrM M M1)
theorem q19 {c : Nat} {A : Ab} (hc : c ≤ 512) (hw : wfA c A) : A.1.2 < 2 ^ 19 := by have := hw.1.2; omega
theorem q20 {c : Nat} {A : Ab} (hc : c ≤ 512) (hw : wfA c A) : A.1.2 < 2 ^ 20 := by have := hw.1.2; omega
section PR
variable {c : Nat} {v w u x : Int32}

theorem PX_build : PX c (fun A => opBuild A v w u x) nX3_build [.int v, .int w, .int u, .int x] := fun M h D A hI hw => by
  obtain ⟨n, h1⟩ := hw.1.1
  exact X_build (d := 4) h1 hI (fun M1 h1 i f => ⟨rfl, rfl, i, f⟩)
theorem PM_build (hc : c ≤ 512) : PM c (fun A => opBuild A v w u x) nX4_build [.int v, .int w, .int u, .int x] := fun M h D A hI hw => by
  obtain ⟨n, h1⟩ := hw.1.1
  exact M_build (d := 4) h1 hI hw.2.1 (fun M1 D1 i f => ⟨rfl, rfl, i, f⟩)
theorem PX_buildAll : PX c (fun A => opAll A) nX3_buildAll [] := fun M h D A hI hw => by
  obtain ⟨n, h1⟩ := hw.1.1
  exact X_all (d := 3) h1 hI hw.2.2.2.2 (fun M1 h1 i f => ⟨rfl, rfl, i, f⟩)
theorem PM_buildAll (hc : c ≤ 512) : PM c (fun A => opAll A) nX4_buildAll [] := fun M h D A hI hw => by
  obtain ⟨n, h1⟩ := hw.1.1
  exact M_all (d := 3) h1 hI hw.2.1 hw.2.2.2.2 (fun M1 D1 i f => ⟨rfl, rfl, i, f⟩)
theorem PX_setBottoms : PX c (fun A => opSetB A v w) nX3_setBottoms [.int v, .int w] := fun M h D A hI hw => by
  obtain ⟨n, h1⟩ := hw.1.1
  exact X_setB (d := 4) h1 hI (fun M1 h1 i f => ⟨rfl, rfl, i, f⟩)
theorem PM_setBottoms (hc : c ≤ 512) : PM c (fun A => opSetB A v w) nX4_setBottoms [.int v, .int w] := fun M h D A hI hw => by
  obtain ⟨n, h1⟩ := hw.1.1
  exact M_setB (d := 4) h1 hI hw.2.1 (fun M1 D1 i f => ⟨rfl, rfl, i, f⟩)
theorem PX_lay : PX c (fun A => opLay A v w u) nX3_lay [.int v, .int w, .int u] := fun M h D A hI hw => by
  obtain ⟨n, h1⟩ := hw.1.1
  exact X_lay (d := 4) h1 hI (fun M1 h1 i f => ⟨rfl, rfl, i, f⟩)
theorem PM_lay (hc : c ≤ 512) : PM c (fun A => opLay A v w u) nX4_lay [.int v, .int w, .int u] := fun M h D A hI hw => by
  obtain ⟨n, h1⟩ := hw.1.1
  exact M_lay (d := 4) h1 hI hw.2.1 (fun M1 D1 i f => ⟨rfl, rfl, i, f⟩)
theorem PX_begin : PX c (fun A => opBegin A) nX3_begin [] := fun M h D A hI hw => by
  obtain ⟨n, h1⟩ := hw.1.1
  exact X_begin (d := 4) h1 hI (fun M1 h1 i f => ⟨rfl, rfl, i, f⟩)
theorem PM_begin (hc : c ≤ 512) : PM c (fun A => opBegin A) nX4_begin [] := fun M h D A hI hw => by
  obtain ⟨n, h1⟩ := hw.1.1
  exact M_begin (d := 4) h1 hI hw.2.1 (fun M1 D1 i f => ⟨rfl, rfl, i, f⟩)
theorem PX_giveUp : PX c (fun A => opGiveUp A) nX3_giveUp [] := fun M h D A hI hw => by
  obtain ⟨n, h1⟩ := hw.1.1
  exact X_giveUp (d := 4) h1 hI (fun M1 h1 i f => ⟨rfl, rfl, i, f⟩)
theorem PM_giveUp (hc : c ≤ 512) : PM c (fun A => opGiveUp A) nX4_giveUp [] := fun M h D A hI hw => by
  obtain ⟨n, h1⟩ := hw.1.1
  exact M_giveUp (d := 4) h1 hI hw.2.1 (fun M1 D1 i f => ⟨rfl, rfl, i, f⟩)
theorem PX_open : PX c (fun A => opOpen A v) nX3_open [.int v] := fun M h D A hI hw => by
  obtain ⟨n, h1⟩ := hw.1.1
  exact X_open (d := 4) h1 hI (fun M1 h1 i f => ⟨rfl, rfl, i, f⟩)
theorem PM_open (hc : c ≤ 512) : PM c (fun A => opOpen A v) nX4_open [.int v] := fun M h D A hI hw => by
  obtain ⟨n, h1⟩ := hw.1.1
  exact M_open (d := 4) h1 hI hw.2.1 (q19 hc hw) (fun M1 D1 i f => ⟨rfl, rfl, i, f⟩)
theorem PX_close : PX c (fun A => opClose A v) nX3_close [.int v] := fun M h D A hI hw => by
  obtain ⟨n, h1⟩ := hw.1.1
  exact X_close (d := 4) h1 hI (fun M1 h1 i f => ⟨rfl, rfl, i, f⟩)
theorem PM_close (hc : c ≤ 512) : PM c (fun A => opClose A v) nX4_close [.int v] := fun M h D A hI hw => by
  obtain ⟨n, h1⟩ := hw.1.1
  exact M_close (d := 4) h1 hI hw.2.1 (q19 hc hw) (fun M1 D1 i f => ⟨rfl, rfl, i, f⟩)
theorem PX_lift : PX c (fun A => opLift A v) nX3_lift [.int v] := fun M h D A hI hw => by
  obtain ⟨n, h1⟩ := hw.1.1
  exact X_lift (d := 4) h1 hI (fun M1 h1 i f => ⟨rfl, rfl, i, f⟩)
theorem PM_lift (hc : c ≤ 512) : PM c (fun A => opLift A v) nX4_lift [.int v] := fun M h D A hI hw => by
  obtain ⟨n, h1⟩ := hw.1.1
  exact M_lift (d := 4) h1 hI hw.2.1 (q19 hc hw) (fun M1 D1 i f => ⟨rfl, rfl, i, f⟩)
theorem PX_take : PX c (fun A => opTake A v) nX3_take [.int v] := fun M h D A hI hw => by
  obtain ⟨n, h1⟩ := hw.1.1
  exact X_take (d := 4) h1 hI (fun M1 h1 i f => ⟨rfl, rfl, i, f⟩)
theorem PM_take (hc : c ≤ 512) : PM c (fun A => opTake A v) nX4_take [.int v] := fun M h D A hI hw => by
  obtain ⟨n, h1⟩ := hw.1.1
  exact M_take (d := 4) h1 hI hw.2.1 (q19 hc hw) (fun M1 D1 i f => ⟨rfl, rfl, i, f⟩)
theorem PX_seal : PX c (fun A => opSeal A v) nX3_seal [.int v] := fun M h D A hI hw => by
  obtain ⟨n, h1⟩ := hw.1.1
  exact X_seal (d := 4) h1 hI (fun M1 h1 i f => ⟨rfl, rfl, i, f⟩)
theorem PM_seal (hc : c ≤ 512) : PM c (fun A => opSeal A v) nX4_seal [.int v] := fun M h D A hI hw => by
  obtain ⟨n, h1⟩ := hw.1.1
  exact M_seal (d := 4) h1 hI hw.2.1 (q19 hc hw) (fun M1 D1 i f => ⟨rfl, rfl, i, f⟩)
theorem PX_type : PX c (fun A => opType A v) nX3_type [.int v] := fun M h D A hI hw => by
  obtain ⟨n, h1⟩ := hw.1.1
  exact X_type (d := 4) hI (fun M1 h1 i f => ⟨rfl, rfl, i, f⟩)
theorem PM_type (hc : c ≤ 512) : PM c (fun A => opType A v) nX4_type [.int v] := fun M h D A hI hw => by
  obtain ⟨n, h1⟩ := hw.1.1
  exact M_type (d := 4) hI hw.2.2.2.2.1 (fun M1 D1 i f => ⟨rfl, rfl, i, f⟩)
theorem PX_clearText : PX c (fun A => opClear A) nX3_clearText [] := fun M h D A hI hw => by
  obtain ⟨n, h1⟩ := hw.1.1
  exact X_clear (d := 4) hI (fun M1 h1 i f => ⟨rfl, rfl, i, f⟩)
theorem PM_clearText (hc : c ≤ 512) : PM c (fun A => opClear A) nX4_clearText [] := fun M h D A hI hw => by
  obtain ⟨n, h1⟩ := hw.1.1
  exact M_clear (d := 4) hI (fun M1 D1 i f => ⟨rfl, rfl, i, f⟩)
theorem PX_undo : PX c (fun A => opUndo A) nX3_undo [] := fun M h D A hI hw => by
  obtain ⟨n, h1⟩ := hw.1.1
  exact X_undo (d := 4) (fun i hi => (hw.2.2.1 i hi).1.elim (fun _ z => z.a1)) hI (fun M1 h1 i f => ⟨rfl, rfl, i, f⟩)
theorem PM_undo (hc : c ≤ 512) : PM c (fun A => opUndo A) nX4_undo [] := fun M h D A hI hw => by
  obtain ⟨n, h1⟩ := hw.1.1
  exact M_undo (d := 4) hI hw.2.1 h1.hi (fun i hi => (hw.2.2.1 i hi).1.elim (fun _ z => z.hi)) (fun M1 D1 i f => ⟨rfl, rfl, i, f⟩)
theorem PX_keep : PX c (fun A => opKeep A) nX3_keep [] := fun M h D A hI hw => by
  obtain ⟨n, h1⟩ := hw.1.1
  exact X_keep (d := 4) h1 hI (fun M1 h1 i f => ⟨rfl, rfl, i, f⟩)
theorem PM_keep (hc : c ≤ 512) : PM c (fun A => opKeep A) nX4_keep [] := fun M h D A hI hw => by
  obtain ⟨n, h1⟩ := hw.1.1
  exact M_keep (d := 4) hI hw.2.1 (fun M1 D1 i f => ⟨rfl, rfl, i, f⟩)
theorem PX_restore : PX c (fun A => opRestore A) nX3_restore [] := fun M h D A hI hw => by
  obtain ⟨n, h1⟩ := hw.1.1
  exact X_restore (d := 4) (fun r hr => (hw.2.2.2.1 r hr).1.elim (fun _ z => z.a1)) h1.a1 hI (fun M1 h1 i f => ⟨rfl, rfl, i, f⟩)
theorem PM_restore (hc : c ≤ 512) : PM c (fun A => opRestore A) nX4_restore [] := fun M h D A hI hw => by
  obtain ⟨n, h1⟩ := hw.1.1
  exact M_restore (d := 4) hI hw.2.1 h1.hi (fun r hr => (hw.2.2.2.1 r hr).1.elim (fun _ z => z.hi)) (fun M1 D1 i f => ⟨rfl, rfl, i, f⟩)
theorem PX_drawer : PX c (fun A => (opDrawer A.1.1 v w, A)) nX3_drawer [.int v, .int w] := fun M h D A hI hw => by
  obtain ⟨n, h1⟩ := hw.1.1
  exact X_drawer (d := 4) h1 hI ⟨rfl, rfl, hI, FrX.refl M⟩
theorem PM_drawer (hc : c ≤ 512) : PM c (fun A => (opDrawer A.1.1 v w, A)) nX4_drawer [.int v, .int w] := fun M h D A hI hw => by
  obtain ⟨n, h1⟩ := hw.1.1
  exact M_drawer (d := 4) h1 hI ⟨rfl, rfl, hI, FrM.refl M⟩
theorem PX_thing : PX c (fun A => (opThing A.1.1 v w, A)) nX3_thing [.int v, .int w] := fun M h D A hI hw => by
  obtain ⟨n, h1⟩ := hw.1.1
  exact X_thing (d := 4) h1 hI ⟨rfl, rfl, hI, FrX.refl M⟩
theorem PM_thing (hc : c ≤ 512) : PM c (fun A => (opThing A.1.1 v w, A)) nX4_thing [.int v, .int w] := fun M h D A hI hw => by
  obtain ⟨n, h1⟩ := hw.1.1
  exact M_thing (d := 4) h1 hI ⟨rfl, rfl, hI, FrM.refl M⟩
theorem PX_needs : PX c (fun A => (opNeeds (nOf A.1.1) A.1.1 v w, A)) nX3_needs [.int v, .int w] := fun M h D A hI hw => by
  obtain ⟨n, h1⟩ := hw.1.1
  dsimp only
  rw [h1.nOf]
  exact X_needs (d := 2) h1 hI (fun M1 i f => ⟨rfl, rfl, i, f⟩)
theorem PM_needs (hc : c ≤ 512) : PM c (fun A => (opNeeds (nOf A.1.1) A.1.1 v w, A)) nX4_needs [.int v, .int w] := fun M h D A hI hw => by
  obtain ⟨n, h1⟩ := hw.1.1
  dsimp only
  rw [h1.nOf]
  exact M_needs (d := 2) h1 hI (fun M1 i f => ⟨rfl, rfl, i, f⟩)
theorem PX_hint : PX c (fun A => (opHint (nOf A.1.1) A.1.1 v, A)) nX3_hint [.int v] := fun M h D A hI hw => by
  obtain ⟨n, h1⟩ := hw.1.1
  dsimp only
  rw [h1.nOf]
  exact X_hint (d := 2) h1 hI (fun M1 i f => ⟨rfl, rfl, i, f⟩)
theorem PM_hint (hc : c ≤ 512) : PM c (fun A => (opHint (nOf A.1.1) A.1.1 v, A)) nX4_hint [.int v] := fun M h D A hI hw => by
  obtain ⟨n, h1⟩ := hw.1.1
  dsimp only
  rw [h1.nOf]
  exact M_hint (d := 2) h1 hI (fun M1 i f => ⟨rfl, rfl, i, f⟩)
theorem PX_minutesBits (hc : c ≤ 512) : PX c (fun A => (mnb A.1.1 A.1.2, A)) nX3_minutesBits [] := fun M h D A hI hw => by
  obtain ⟨n, h1⟩ := hw.1.1
  exact tX_minutesBits (d := 7) hI.1 h1.a1 (q20 hc hw) ⟨rfl, rfl, hI, FrX.refl M⟩
theorem PM_minutesBits (hc : c ≤ 512) : PM c (fun A => (mnb A.1.1 A.1.2, A)) nX4_minutesBits [] := fun M h D A hI hw => by
  have ha : M 74 = A.1.1 := hI.1.1
  exact tM_minutesBits (d := 5) hI.1.2 (q20 hc hw) ⟨by rw [ha], rfl, hI, FrM.refl M⟩
theorem PX_count : PX c (fun A => (opCount (nOf A.1.1) A v, A)) nX3_count [.int v] := fun M h D A hI hw => by
  obtain ⟨n, h1⟩ := hw.1.1
  dsimp only
  rw [h1.nOf]
  exact X_count (d := 2) h1 hI (fun M1 i f => ⟨rfl, rfl, i, f⟩)
theorem PM_count (hc : c ≤ 512) : PM c (fun A => (opCount (nOf A.1.1) A v, A)) nX4_count [.int v] := fun M h D A hI hw => by
  obtain ⟨n, h1⟩ := hw.1.1
  dsimp only
  rw [h1.nOf]
  exact M_count (d := 2) h1 hI (fun M1 i f => ⟨rfl, rfl, i, f⟩)
end PR
abbrev Lw (i : Nat) : Lc := [(3, .int (nI i)), (2, .ref 73), (1, .ref 0), (0, .retAddr 0)]
section LW
variable {c i Lb : Nat} {xs : Nat → Int32} {M : Im} {h : Hm} {D : Dm} {A : Ab} {Q : Option Value → Im → Hm → Dm → Prop}
theorem law_arg {pc j p5 : Nat} {ji : Int} {r : List Value} (hL : Lb ≤ 2560) (hj : i + j < Lb) (hji : Int32.ofInt ji = nI j) (t1 : TB 153 pc = some (.aload_n 0, 1)) (t2 : TB 153 (pc + 1) = some (.iload_n 3, 1)) (t3 : TB 153 (pc + 2) = some (.iconst ji, 1)) (t4 : TB 153 (pc + 3) = some (.iadd, 1)) (t5 : TB 153 (pc + 4) = some (.iaload, 1)) (e : pc + 5 = p5) (k : Ev 9 (some (Lb, xs)) 153 p5 (Lw i) (.int (xs (i + j)) :: r) M h D Q) : Ev 9 (some (Lb, xs)) 153 pc (Lw i) r M h D Q := by
  refine ev_aload_n (pc1 := pc + 1) rfl rfl t1 rfl ?_
  refine ev_iload_n (pc1 := pc + 2) rfl t2 rfl ?_
  refine ev_iconst (pc1 := pc + 3) hji t3 rfl ?_
  refine ev_iadd (pc1 := pc + 4) t4 rfl ?_
  rw [nI_add]
  refine ev_saload (pc1 := pc + 5) t5 rfl rfl (vp_in_nI hj (by omega)) ?_
  rw [nI_clamp (by omega), e]
  exact k

set_option maxRecDepth 100000 in
theorem LW_build (hL : Lb ≤ 2560) (hi : i + 5 ≤ Lb) (hc : c ≤ 512) (hI : IX M h A) (hJ : IM M D A) (hw : wfA c A) (k : ∀ M1 h1 D1 A1, IX M1 h1 A1 → IM M1 D1 A1 → wfA (c + 1) A1 → Ev 9 (some (Lb, xs)) 153 699 (Lw i) [] M1 h1 D1 Q) : Ev 9 (some (Lb, xs)) 153 140 (Lw i) [] M h D Q := by
  refine ev_aload_n (n := 1) (v := .ref 0) (pc1 := 141) rfl rfl (TBof tbs_153 _ rfl) rfl ?_
  refine law_arg (pc := 141) (j := 1) (p5 := 146) hL (by omega) (by decide) (TBof tbs_153 _ rfl) (TBof tbs_153 _ rfl) (TBof tbs_153 _ rfl) (TBof tbs_153 _ rfl) (TBof tbs_153 _ rfl) rfl ?_
  refine law_arg (pc := 146) (j := 2) (p5 := 151) hL (by omega) (by decide) (TBof tbs_153 _ rfl) (TBof tbs_153 _ rfl) (TBof tbs_153 _ rfl) (TBof tbs_153 _ rfl) (TBof tbs_153 _ rfl) rfl ?_
  refine law_arg (pc := 151) (j := 3) (p5 := 156) hL (by omega) (by decide) (TBof tbs_153 _ rfl) (TBof tbs_153 _ rfl) (TBof tbs_153 _ rfl) (TBof tbs_153 _ rfl) (TBof tbs_153 _ rfl) rfl ?_
  refine law_arg (pc := 156) (j := 4) (p5 := 161) hL (by omega) (by decide) (TBof tbs_153 _ rfl) (TBof tbs_153 _ rfl) (TBof tbs_153 _ rfl) (TBof tbs_153 _ rfl) (TBof tbs_153 _ rfl) rfl ?_
  refine ev_callvI (pc1 := 164) (as := [.int (xs (i + 1)), .int (xs (i + 2)), .int (xs (i + 3)), .int (xs (i + 4))]) (r := []) (TBof tbs_153 _ rfl) rfl (lnkof mo_153 ln_9_13) rfl na_49 ltc_0 (sh_0.trans (by rw [mo_49])) (Nat.le_of_ble_eq_true rfl) (PX_build M h D A hI hw) (fun x1 M1 h1 D1 ⟨e1, e2, i1, f1⟩ => ?_)
  subst e2
  refine ev_aload_n (n := 2) (v := .ref 73) (pc1 := 165) rfl rfl (TBof tbs_153 _ rfl) rfl ?_
  refine law_arg (pc := 165) (j := 1) (p5 := 170) hL (by omega) (by decide) (TBof tbs_153 _ rfl) (TBof tbs_153 _ rfl) (TBof tbs_153 _ rfl) (TBof tbs_153 _ rfl) (TBof tbs_153 _ rfl) rfl ?_
  refine law_arg (pc := 170) (j := 2) (p5 := 175) hL (by omega) (by decide) (TBof tbs_153 _ rfl) (TBof tbs_153 _ rfl) (TBof tbs_153 _ rfl) (TBof tbs_153 _ rfl) (TBof tbs_153 _ rfl) rfl ?_
  refine law_arg (pc := 175) (j := 3) (p5 := 180) hL (by omega) (by decide) (TBof tbs_153 _ rfl) (TBof tbs_153 _ rfl) (TBof tbs_153 _ rfl) (TBof tbs_153 _ rfl) (TBof tbs_153 _ rfl) rfl ?_
  refine law_arg (pc := 180) (j := 4) (p5 := 185) hL (by omega) (by decide) (TBof tbs_153 _ rfl) (TBof tbs_153 _ rfl) (TBof tbs_153 _ rfl) (TBof tbs_153 _ rfl) (TBof tbs_153 _ rfl) rfl ?_
  refine ev_callvI (pc1 := 188) (as := [.int (xs (i + 1)), .int (xs (i + 2)), .int (xs (i + 3)), .int (xs (i + 4))]) (r := [.int x1]) (TBof tbs_153 _ rfl) rfl (lnkof mo_153 ln_9_17) rfl na_92 ltc_73 (sh_73.trans (by rw [mo_92])) (Nat.le_of_ble_eq_true rfl) (PM_build hc M1 h1 D1 A (IM_X hJ f1) hw) (fun x2 M2 h2 D2 ⟨e3, e4, i2, f2⟩ => ?_)
  subst e4
  exact ev_icmp (pc1 := 191) (t := 699) (TBof tbs_153 _ rfl) (by decide) rfl (fun _ => k M2 h2 D2 _ (IX_M i1 f2) i2 (K_build hw)) (fun z => absurd (e1.trans e3.symm) z)
set_option maxRecDepth 100000 in
theorem LW_buildAll (hL : Lb ≤ 2560) (hi : i + 5 ≤ Lb) (hc : c ≤ 512) (hI : IX M h A) (hJ : IM M D A) (hw : wfA c A) (k : ∀ M1 h1 D1 A1, IX M1 h1 A1 → IM M1 D1 A1 → wfA (c + 1) A1 → Ev 9 (some (Lb, xs)) 153 699 (Lw i) [] M1 h1 D1 Q) : Ev 9 (some (Lb, xs)) 153 193 (Lw i) [] M h D Q := by
  refine ev_aload_n (n := 1) (v := .ref 0) (pc1 := 194) rfl rfl (TBof tbs_153 _ rfl) rfl ?_
  refine ev_callvI (pc1 := 197) (as := []) (r := []) (TBof tbs_153 _ rfl) rfl (lnkof mo_153 ln_9_18) rfl na_50 ltc_0 (sh_0.trans (by rw [mo_50])) (Nat.le_of_ble_eq_true rfl) (PX_buildAll M h D A hI hw) (fun x1 M1 h1 D1 ⟨e1, e2, i1, f1⟩ => ?_)
  subst e2
  refine ev_aload_n (n := 2) (v := .ref 73) (pc1 := 198) rfl rfl (TBof tbs_153 _ rfl) rfl ?_
  refine ev_callvI (pc1 := 201) (as := []) (r := [.int x1]) (TBof tbs_153 _ rfl) rfl (lnkof mo_153 ln_9_22) rfl na_98 ltc_73 (sh_73.trans (by rw [mo_98])) (Nat.le_of_ble_eq_true rfl) (PM_buildAll hc M1 h1 D1 A (IM_X hJ f1) hw) (fun x2 M2 h2 D2 ⟨e3, e4, i2, f2⟩ => ?_)
  subst e4
  exact ev_icmp (pc1 := 204) (t := 699) (TBof tbs_153 _ rfl) (by decide) rfl (fun _ => k M2 h2 D2 _ (IX_M i1 f2) i2 (K_all hw)) (fun z => absurd (e1.trans e3.symm) z)
set_option maxRecDepth 100000 in
theorem LW_setBottoms (hL : Lb ≤ 2560) (hi : i + 5 ≤ Lb) (hc : c ≤ 512) (hI : IX M h A) (hJ : IM M D A) (hw : wfA c A) (k : ∀ M1 h1 D1 A1, IX M1 h1 A1 → IM M1 D1 A1 → wfA (c + 1) A1 → Ev 9 (some (Lb, xs)) 153 699 (Lw i) [] M1 h1 D1 Q) : Ev 9 (some (Lb, xs)) 153 206 (Lw i) [] M h D Q := by
  refine ev_aload_n (n := 1) (v := .ref 0) (pc1 := 207) rfl rfl (TBof tbs_153 _ rfl) rfl ?_
  refine law_arg (pc := 207) (j := 1) (p5 := 212) hL (by omega) (by decide) (TBof tbs_153 _ rfl) (TBof tbs_153 _ rfl) (TBof tbs_153 _ rfl) (TBof tbs_153 _ rfl) (TBof tbs_153 _ rfl) rfl ?_
  refine law_arg (pc := 212) (j := 2) (p5 := 217) hL (by omega) (by decide) (TBof tbs_153 _ rfl) (TBof tbs_153 _ rfl) (TBof tbs_153 _ rfl) (TBof tbs_153 _ rfl) (TBof tbs_153 _ rfl) rfl ?_
  refine ev_callvI (pc1 := 220) (as := [.int (xs (i + 1)), .int (xs (i + 2))]) (r := []) (TBof tbs_153 _ rfl) rfl (lnkof mo_153 ln_9_23) rfl na_51 ltc_0 (sh_0.trans (by rw [mo_51])) (Nat.le_of_ble_eq_true rfl) (PX_setBottoms M h D A hI hw) (fun x1 M1 h1 D1 ⟨e1, e2, i1, f1⟩ => ?_)
  subst e2
  refine ev_aload_n (n := 2) (v := .ref 73) (pc1 := 221) rfl rfl (TBof tbs_153 _ rfl) rfl ?_
  refine law_arg (pc := 221) (j := 1) (p5 := 226) hL (by omega) (by decide) (TBof tbs_153 _ rfl) (TBof tbs_153 _ rfl) (TBof tbs_153 _ rfl) (TBof tbs_153 _ rfl) (TBof tbs_153 _ rfl) rfl ?_
  refine law_arg (pc := 226) (j := 2) (p5 := 231) hL (by omega) (by decide) (TBof tbs_153 _ rfl) (TBof tbs_153 _ rfl) (TBof tbs_153 _ rfl) (TBof tbs_153 _ rfl) (TBof tbs_153 _ rfl) rfl ?_
  refine ev_callvI (pc1 := 234) (as := [.int (xs (i + 1)), .int (xs (i + 2))]) (r := [.int x1]) (TBof tbs_153 _ rfl) rfl (lnkof mo_153 ln_9_27) rfl na_99 ltc_73 (sh_73.trans (by rw [mo_99])) (Nat.le_of_ble_eq_true rfl) (PM_setBottoms hc M1 h1 D1 A (IM_X hJ f1) hw) (fun x2 M2 h2 D2 ⟨e3, e4, i2, f2⟩ => ?_)
  subst e4
  exact ev_icmp (pc1 := 237) (t := 699) (TBof tbs_153 _ rfl) (by decide) rfl (fun _ => k M2 h2 D2 _ (IX_M i1 f2) i2 (K_setB hw)) (fun z => absurd (e1.trans e3.symm) z)
set_option maxRecDepth 100000 in
theorem LW_lay (hL : Lb ≤ 2560) (hi : i + 5 ≤ Lb) (hc : c ≤ 512) (hI : IX M h A) (hJ : IM M D A) (hw : wfA c A) (k : ∀ M1 h1 D1 A1, IX M1 h1 A1 → IM M1 D1 A1 → wfA (c + 1) A1 → Ev 9 (some (Lb, xs)) 153 699 (Lw i) [] M1 h1 D1 Q) : Ev 9 (some (Lb, xs)) 153 239 (Lw i) [] M h D Q := by
  refine ev_aload_n (n := 1) (v := .ref 0) (pc1 := 240) rfl rfl (TBof tbs_153 _ rfl) rfl ?_
  refine law_arg (pc := 240) (j := 1) (p5 := 245) hL (by omega) (by decide) (TBof tbs_153 _ rfl) (TBof tbs_153 _ rfl) (TBof tbs_153 _ rfl) (TBof tbs_153 _ rfl) (TBof tbs_153 _ rfl) rfl ?_
  refine law_arg (pc := 245) (j := 2) (p5 := 250) hL (by omega) (by decide) (TBof tbs_153 _ rfl) (TBof tbs_153 _ rfl) (TBof tbs_153 _ rfl) (TBof tbs_153 _ rfl) (TBof tbs_153 _ rfl) rfl ?_
  refine law_arg (pc := 250) (j := 3) (p5 := 255) hL (by omega) (by decide) (TBof tbs_153 _ rfl) (TBof tbs_153 _ rfl) (TBof tbs_153 _ rfl) (TBof tbs_153 _ rfl) (TBof tbs_153 _ rfl) rfl ?_
  refine ev_callvI (pc1 := 258) (as := [.int (xs (i + 1)), .int (xs (i + 2)), .int (xs (i + 3))]) (r := []) (TBof tbs_153 _ rfl) rfl (lnkof mo_153 ln_9_28) rfl na_52 ltc_0 (sh_0.trans (by rw [mo_52])) (Nat.le_of_ble_eq_true rfl) (PX_lay M h D A hI hw) (fun x1 M1 h1 D1 ⟨e1, e2, i1, f1⟩ => ?_)
  subst e2
  refine ev_aload_n (n := 2) (v := .ref 73) (pc1 := 259) rfl rfl (TBof tbs_153 _ rfl) rfl ?_
  refine law_arg (pc := 259) (j := 1) (p5 := 264) hL (by omega) (by decide) (TBof tbs_153 _ rfl) (TBof tbs_153 _ rfl) (TBof tbs_153 _ rfl) (TBof tbs_153 _ rfl) (TBof tbs_153 _ rfl) rfl ?_
  refine law_arg (pc := 264) (j := 2) (p5 := 269) hL (by omega) (by decide) (TBof tbs_153 _ rfl) (TBof tbs_153 _ rfl) (TBof tbs_153 _ rfl) (TBof tbs_153 _ rfl) (TBof tbs_153 _ rfl) rfl ?_
  refine law_arg (pc := 269) (j := 3) (p5 := 274) hL (by omega) (by decide) (TBof tbs_153 _ rfl) (TBof tbs_153 _ rfl) (TBof tbs_153 _ rfl) (TBof tbs_153 _ rfl) (TBof tbs_153 _ rfl) rfl ?_
  refine ev_callvI (pc1 := 277) (as := [.int (xs (i + 1)), .int (xs (i + 2)), .int (xs (i + 3))]) (r := [.int x1]) (TBof tbs_153 _ rfl) rfl (lnkof mo_153 ln_9_32) rfl na_101 ltc_73 (sh_73.trans (by rw [mo_101])) (Nat.le_of_ble_eq_true rfl) (PM_lay hc M1 h1 D1 A (IM_X hJ f1) hw) (fun x2 M2 h2 D2 ⟨e3, e4, i2, f2⟩ => ?_)
  subst e4
  exact ev_icmp (pc1 := 280) (t := 699) (TBof tbs_153 _ rfl) (by decide) rfl (fun _ => k M2 h2 D2 _ (IX_M i1 f2) i2 (K_lay hw)) (fun z => absurd (e1.trans e3.symm) z)
set_option maxRecDepth 100000 in
theorem LW_begin (hL : Lb ≤ 2560) (hi : i + 5 ≤ Lb) (hc : c ≤ 512) (hI : IX M h A) (hJ : IM M D A) (hw : wfA c A) (k : ∀ M1 h1 D1 A1, IX M1 h1 A1 → IM M1 D1 A1 → wfA (c + 1) A1 → Ev 9 (some (Lb, xs)) 153 699 (Lw i) [] M1 h1 D1 Q) : Ev 9 (some (Lb, xs)) 153 282 (Lw i) [] M h D Q := by
  refine ev_aload_n (n := 1) (v := .ref 0) (pc1 := 283) rfl rfl (TBof tbs_153 _ rfl) rfl ?_
  refine ev_callvI (pc1 := 286) (as := []) (r := []) (TBof tbs_153 _ rfl) rfl (lnkof mo_153 ln_9_33) rfl na_53 ltc_0 (sh_0.trans (by rw [mo_53])) (Nat.le_of_ble_eq_true rfl) (PX_begin M h D A hI hw) (fun x1 M1 h1 D1 ⟨e1, e2, i1, f1⟩ => ?_)
  subst e2
  refine ev_aload_n (n := 2) (v := .ref 73) (pc1 := 287) rfl rfl (TBof tbs_153 _ rfl) rfl ?_
  refine ev_callvI (pc1 := 290) (as := []) (r := [.int x1]) (TBof tbs_153 _ rfl) rfl (lnkof mo_153 ln_9_36) rfl na_104 ltc_73 (sh_73.trans (by rw [mo_104])) (Nat.le_of_ble_eq_true rfl) (PM_begin hc M1 h1 D1 A (IM_X hJ f1) hw) (fun x2 M2 h2 D2 ⟨e3, e4, i2, f2⟩ => ?_)
  subst e4
  exact ev_icmp (pc1 := 293) (t := 699) (TBof tbs_153 _ rfl) (by decide) rfl (fun _ => k M2 h2 D2 _ (IX_M i1 f2) i2 (K_begin hw)) (fun z => absurd (e1.trans e3.symm) z)
set_option maxRecDepth 100000 in
theorem LW_giveUp (hL : Lb ≤ 2560) (hi : i + 5 ≤ Lb) (hc : c ≤ 512) (hI : IX M h A) (hJ : IM M D A) (hw : wfA c A) (k : ∀ M1 h1 D1 A1, IX M1 h1 A1 → IM M1 D1 A1 → wfA (c + 1) A1 → Ev 9 (some (Lb, xs)) 153 699 (Lw i) [] M1 h1 D1 Q) : Ev 9 (some (Lb, xs)) 153 295 (Lw i) [] M h D Q := by
  refine ev_aload_n (n := 1) (v := .ref 0) (pc1 := 296) rfl rfl (TBof tbs_153 _ rfl) rfl ?_
  refine ev_callvI (pc1 := 299) (as := []) (r := []) (TBof tbs_153 _ rfl) rfl (lnkof mo_153 ln_9_37) rfl na_54 ltc_0 (sh_0.trans (by rw [mo_54])) (Nat.le_of_ble_eq_true rfl) (PX_giveUp M h D A hI hw) (fun x1 M1 h1 D1 ⟨e1, e2, i1, f1⟩ => ?_)
  subst e2
  refine ev_aload_n (n := 2) (v := .ref 73) (pc1 := 300) rfl rfl (TBof tbs_153 _ rfl) rfl ?_
  refine ev_callvI (pc1 := 303) (as := []) (r := [.int x1]) (TBof tbs_153 _ rfl) rfl (lnkof mo_153 ln_9_40) rfl na_105 ltc_73 (sh_73.trans (by rw [mo_105])) (Nat.le_of_ble_eq_true rfl) (PM_giveUp hc M1 h1 D1 A (IM_X hJ f1) hw) (fun x2 M2 h2 D2 ⟨e3, e4, i2, f2⟩ => ?_)
  subst e4
  exact ev_icmp (pc1 := 306) (t := 699) (TBof tbs_153 _ rfl) (by decide) rfl (fun _ => k M2 h2 D2 _ (IX_M i1 f2) i2 (K_giveUp hw)) (fun z => absurd (e1.trans e3.symm) z)
set_option maxRecDepth 100000 in
theorem LW_open (hL : Lb ≤ 2560) (hi : i + 5 ≤ Lb) (hc : c ≤ 512) (hI : IX M h A) (hJ : IM M D A) (hw : wfA c A) (k : ∀ M1 h1 D1 A1, IX M1 h1 A1 → IM M1 D1 A1 → wfA (c + 1) A1 → Ev 9 (some (Lb, xs)) 153 699 (Lw i) [] M1 h1 D1 Q) : Ev 9 (some (Lb, xs)) 153 308 (Lw i) [] M h D Q := by
  refine ev_aload_n (n := 1) (v := .ref 0) (pc1 := 309) rfl rfl (TBof tbs_153 _ rfl) rfl ?_
  refine law_arg (pc := 309) (j := 1) (p5 := 314) hL (by omega) (by decide) (TBof tbs_153 _ rfl) (TBof tbs_153 _ rfl) (TBof tbs_153 _ rfl) (TBof tbs_153 _ rfl) (TBof tbs_153 _ rfl) rfl ?_
  refine ev_callvI (pc1 := 317) (as := [.int (xs (i + 1))]) (r := []) (TBof tbs_153 _ rfl) rfl (lnkof mo_153 ln_9_41) rfl na_55 ltc_0 (sh_0.trans (by rw [mo_55])) (Nat.le_of_ble_eq_true rfl) (PX_open M h D A hI hw) (fun x1 M1 h1 D1 ⟨e1, e2, i1, f1⟩ => ?_)
  subst e2
  refine ev_aload_n (n := 2) (v := .ref 73) (pc1 := 318) rfl rfl (TBof tbs_153 _ rfl) rfl ?_
  refine law_arg (pc := 318) (j := 1) (p5 := 323) hL (by omega) (by decide) (TBof tbs_153 _ rfl) (TBof tbs_153 _ rfl) (TBof tbs_153 _ rfl) (TBof tbs_153 _ rfl) (TBof tbs_153 _ rfl) rfl ?_
  refine ev_callvI (pc1 := 326) (as := [.int (xs (i + 1))]) (r := [.int x1]) (TBof tbs_153 _ rfl) rfl (lnkof mo_153 ln_9_45) rfl na_112 ltc_73 (sh_73.trans (by rw [mo_112])) (Nat.le_of_ble_eq_true rfl) (PM_open hc M1 h1 D1 A (IM_X hJ f1) hw) (fun x2 M2 h2 D2 ⟨e3, e4, i2, f2⟩ => ?_)
  subst e4
  exact ev_icmp (pc1 := 329) (t := 699) (TBof tbs_153 _ rfl) (by decide) rfl (fun _ => k M2 h2 D2 _ (IX_M i1 f2) i2 (K_open hw)) (fun z => absurd (e1.trans e3.symm) z)
set_option maxRecDepth 100000 in
theorem LW_close (hL : Lb ≤ 2560) (hi : i + 5 ≤ Lb) (hc : c ≤ 512) (hI : IX M h A) (hJ : IM M D A) (hw : wfA c A) (k : ∀ M1 h1 D1 A1, IX M1 h1 A1 → IM M1 D1 A1 → wfA (c + 1) A1 → Ev 9 (some (Lb, xs)) 153 699 (Lw i) [] M1 h1 D1 Q) : Ev 9 (some (Lb, xs)) 153 331 (Lw i) [] M h D Q := by
  refine ev_aload_n (n := 1) (v := .ref 0) (pc1 := 332) rfl rfl (TBof tbs_153 _ rfl) rfl ?_
  refine law_arg (pc := 332) (j := 1) (p5 := 337) hL (by omega) (by decide) (TBof tbs_153 _ rfl) (TBof tbs_153 _ rfl) (TBof tbs_153 _ rfl) (TBof tbs_153 _ rfl) (TBof tbs_153 _ rfl) rfl ?_
  refine ev_callvI (pc1 := 340) (as := [.int (xs (i + 1))]) (r := []) (TBof tbs_153 _ rfl) rfl (lnkof mo_153 ln_9_46) rfl na_56 ltc_0 (sh_0.trans (by rw [mo_56])) (Nat.le_of_ble_eq_true rfl) (PX_close M h D A hI hw) (fun x1 M1 h1 D1 ⟨e1, e2, i1, f1⟩ => ?_)
  subst e2
  refine ev_aload_n (n := 2) (v := .ref 73) (pc1 := 341) rfl rfl (TBof tbs_153 _ rfl) rfl ?_
  refine law_arg (pc := 341) (j := 1) (p5 := 346) hL (by omega) (by decide) (TBof tbs_153 _ rfl) (TBof tbs_153 _ rfl) (TBof tbs_153 _ rfl) (TBof tbs_153 _ rfl) (TBof tbs_153 _ rfl) rfl ?_
  refine ev_callvI (pc1 := 349) (as := [.int (xs (i + 1))]) (r := [.int x1]) (TBof tbs_153 _ rfl) rfl (lnkof mo_153 ln_9_49) rfl na_113 ltc_73 (sh_73.trans (by rw [mo_113])) (Nat.le_of_ble_eq_true rfl) (PM_close hc M1 h1 D1 A (IM_X hJ f1) hw) (fun x2 M2 h2 D2 ⟨e3, e4, i2, f2⟩ => ?_)
  subst e4
  exact ev_icmp (pc1 := 352) (t := 699) (TBof tbs_153 _ rfl) (by decide) rfl (fun _ => k M2 h2 D2 _ (IX_M i1 f2) i2 (K_close hw)) (fun z => absurd (e1.trans e3.symm) z)
set_option maxRecDepth 100000 in
theorem LW_lift (hL : Lb ≤ 2560) (hi : i + 5 ≤ Lb) (hc : c ≤ 512) (hI : IX M h A) (hJ : IM M D A) (hw : wfA c A) (k : ∀ M1 h1 D1 A1, IX M1 h1 A1 → IM M1 D1 A1 → wfA (c + 1) A1 → Ev 9 (some (Lb, xs)) 153 699 (Lw i) [] M1 h1 D1 Q) : Ev 9 (some (Lb, xs)) 153 354 (Lw i) [] M h D Q := by
  refine ev_aload_n (n := 1) (v := .ref 0) (pc1 := 355) rfl rfl (TBof tbs_153 _ rfl) rfl ?_
  refine law_arg (pc := 355) (j := 1) (p5 := 360) hL (by omega) (by decide) (TBof tbs_153 _ rfl) (TBof tbs_153 _ rfl) (TBof tbs_153 _ rfl) (TBof tbs_153 _ rfl) (TBof tbs_153 _ rfl) rfl ?_
  refine ev_callvI (pc1 := 363) (as := [.int (xs (i + 1))]) (r := []) (TBof tbs_153 _ rfl) rfl (lnkof mo_153 ln_9_50) rfl na_57 ltc_0 (sh_0.trans (by rw [mo_57])) (Nat.le_of_ble_eq_true rfl) (PX_lift M h D A hI hw) (fun x1 M1 h1 D1 ⟨e1, e2, i1, f1⟩ => ?_)
  subst e2
  refine ev_aload_n (n := 2) (v := .ref 73) (pc1 := 364) rfl rfl (TBof tbs_153 _ rfl) rfl ?_
  refine law_arg (pc := 364) (j := 1) (p5 := 369) hL (by omega) (by decide) (TBof tbs_153 _ rfl) (TBof tbs_153 _ rfl) (TBof tbs_153 _ rfl) (TBof tbs_153 _ rfl) (TBof tbs_153 _ rfl) rfl ?_
  refine ev_callvI (pc1 := 372) (as := [.int (xs (i + 1))]) (r := [.int x1]) (TBof tbs_153 _ rfl) rfl (lnkof mo_153 ln_9_53) rfl na_114 ltc_73 (sh_73.trans (by rw [mo_114])) (Nat.le_of_ble_eq_true rfl) (PM_lift hc M1 h1 D1 A (IM_X hJ f1) hw) (fun x2 M2 h2 D2 ⟨e3, e4, i2, f2⟩ => ?_)
  subst e4
  exact ev_icmp (pc1 := 375) (t := 699) (TBof tbs_153 _ rfl) (by decide) rfl (fun _ => k M2 h2 D2 _ (IX_M i1 f2) i2 (K_lift hw)) (fun z => absurd (e1.trans e3.symm) z)
set_option maxRecDepth 100000 in
theorem LW_take (hL : Lb ≤ 2560) (hi : i + 5 ≤ Lb) (hc : c ≤ 512) (hI : IX M h A) (hJ : IM M D A) (hw : wfA c A) (k : ∀ M1 h1 D1 A1, IX M1 h1 A1 → IM M1 D1 A1 → wfA (c + 1) A1 → Ev 9 (some (Lb, xs)) 153 699 (Lw i) [] M1 h1 D1 Q) : Ev 9 (some (Lb, xs)) 153 377 (Lw i) [] M h D Q := by
  refine ev_aload_n (n := 1) (v := .ref 0) (pc1 := 378) rfl rfl (TBof tbs_153 _ rfl) rfl ?_
  refine law_arg (pc := 378) (j := 1) (p5 := 383) hL (by omega) (by decide) (TBof tbs_153 _ rfl) (TBof tbs_153 _ rfl) (TBof tbs_153 _ rfl) (TBof tbs_153 _ rfl) (TBof tbs_153 _ rfl) rfl ?_
  refine ev_callvI (pc1 := 386) (as := [.int (xs (i + 1))]) (r := []) (TBof tbs_153 _ rfl) rfl (lnkof mo_153 ln_9_54) rfl na_58 ltc_0 (sh_0.trans (by rw [mo_58])) (Nat.le_of_ble_eq_true rfl) (PX_take M h D A hI hw) (fun x1 M1 h1 D1 ⟨e1, e2, i1, f1⟩ => ?_)
  subst e2
  refine ev_aload_n (n := 2) (v := .ref 73) (pc1 := 387) rfl rfl (TBof tbs_153 _ rfl) rfl ?_
  refine law_arg (pc := 387) (j := 1) (p5 := 392) hL (by omega) (by decide) (TBof tbs_153 _ rfl) (TBof tbs_153 _ rfl) (TBof tbs_153 _ rfl) (TBof tbs_153 _ rfl) (TBof tbs_153 _ rfl) rfl ?_
  refine ev_callvI (pc1 := 395) (as := [.int (xs (i + 1))]) (r := [.int x1]) (TBof tbs_153 _ rfl) rfl (lnkof mo_153 ln_9_57) rfl na_116 ltc_73 (sh_73.trans (by rw [mo_116])) (Nat.le_of_ble_eq_true rfl) (PM_take hc M1 h1 D1 A (IM_X hJ f1) hw) (fun x2 M2 h2 D2 ⟨e3, e4, i2, f2⟩ => ?_)
  subst e4
  exact ev_icmp (pc1 := 398) (t := 699) (TBof tbs_153 _ rfl) (by decide) rfl (fun _ => k M2 h2 D2 _ (IX_M i1 f2) i2 (K_take hw)) (fun z => absurd (e1.trans e3.symm) z)
set_option maxRecDepth 100000 in
theorem LW_seal (hL : Lb ≤ 2560) (hi : i + 5 ≤ Lb) (hc : c ≤ 512) (hI : IX M h A) (hJ : IM M D A) (hw : wfA c A) (k : ∀ M1 h1 D1 A1, IX M1 h1 A1 → IM M1 D1 A1 → wfA (c + 1) A1 → Ev 9 (some (Lb, xs)) 153 699 (Lw i) [] M1 h1 D1 Q) : Ev 9 (some (Lb, xs)) 153 400 (Lw i) [] M h D Q := by
  refine ev_aload_n (n := 1) (v := .ref 0) (pc1 := 401) rfl rfl (TBof tbs_153 _ rfl) rfl ?_
  refine law_arg (pc := 401) (j := 1) (p5 := 406) hL (by omega) (by decide) (TBof tbs_153 _ rfl) (TBof tbs_153 _ rfl) (TBof tbs_153 _ rfl) (TBof tbs_153 _ rfl) (TBof tbs_153 _ rfl) rfl ?_
  refine ev_callvI (pc1 := 409) (as := [.int (xs (i + 1))]) (r := []) (TBof tbs_153 _ rfl) rfl (lnkof mo_153 ln_9_58) rfl na_59 ltc_0 (sh_0.trans (by rw [mo_59])) (Nat.le_of_ble_eq_true rfl) (PX_seal M h D A hI hw) (fun x1 M1 h1 D1 ⟨e1, e2, i1, f1⟩ => ?_)
  subst e2
  refine ev_aload_n (n := 2) (v := .ref 73) (pc1 := 410) rfl rfl (TBof tbs_153 _ rfl) rfl ?_
  refine law_arg (pc := 410) (j := 1) (p5 := 415) hL (by omega) (by decide) (TBof tbs_153 _ rfl) (TBof tbs_153 _ rfl) (TBof tbs_153 _ rfl) (TBof tbs_153 _ rfl) (TBof tbs_153 _ rfl) rfl ?_
  refine ev_callvI (pc1 := 418) (as := [.int (xs (i + 1))]) (r := [.int x1]) (TBof tbs_153 _ rfl) rfl (lnkof mo_153 ln_9_61) rfl na_117 ltc_73 (sh_73.trans (by rw [mo_117])) (Nat.le_of_ble_eq_true rfl) (PM_seal hc M1 h1 D1 A (IM_X hJ f1) hw) (fun x2 M2 h2 D2 ⟨e3, e4, i2, f2⟩ => ?_)
  subst e4
  exact ev_icmp (pc1 := 421) (t := 699) (TBof tbs_153 _ rfl) (by decide) rfl (fun _ => k M2 h2 D2 _ (IX_M i1 f2) i2 (K_seal hw)) (fun z => absurd (e1.trans e3.symm) z)
set_option maxRecDepth 100000 in
theorem LW_type (hL : Lb ≤ 2560) (hi : i + 5 ≤ Lb) (hc : c ≤ 512) (hI : IX M h A) (hJ : IM M D A) (hw : wfA c A) (k : ∀ M1 h1 D1 A1, IX M1 h1 A1 → IM M1 D1 A1 → wfA (c + 1) A1 → Ev 9 (some (Lb, xs)) 153 699 (Lw i) [] M1 h1 D1 Q) : Ev 9 (some (Lb, xs)) 153 423 (Lw i) [] M h D Q := by
  refine ev_aload_n (n := 1) (v := .ref 0) (pc1 := 424) rfl rfl (TBof tbs_153 _ rfl) rfl ?_
  refine law_arg (pc := 424) (j := 1) (p5 := 429) hL (by omega) (by decide) (TBof tbs_153 _ rfl) (TBof tbs_153 _ rfl) (TBof tbs_153 _ rfl) (TBof tbs_153 _ rfl) (TBof tbs_153 _ rfl) rfl ?_
  refine ev_i2c (pc1 := 430) (TBof tbs_153 _ rfl) rfl ?_
  refine ev_callvI (pc1 := 433) (as := [.int ((xs (i + 1)).toUInt32 % 65536).toInt32]) (r := []) (TBof tbs_153 _ rfl) rfl (lnkof mo_153 ln_9_62) rfl na_60 ltc_0 (sh_0.trans (by rw [mo_60])) (Nat.le_of_ble_eq_true rfl) (PX_type M h D A hI hw) (fun x1 M1 h1 D1 ⟨e1, e2, i1, f1⟩ => ?_)
  subst e2
  refine ev_aload_n (n := 2) (v := .ref 73) (pc1 := 434) rfl rfl (TBof tbs_153 _ rfl) rfl ?_
  refine law_arg (pc := 434) (j := 1) (p5 := 439) hL (by omega) (by decide) (TBof tbs_153 _ rfl) (TBof tbs_153 _ rfl) (TBof tbs_153 _ rfl) (TBof tbs_153 _ rfl) (TBof tbs_153 _ rfl) rfl ?_
  refine ev_i2c (pc1 := 440) (TBof tbs_153 _ rfl) rfl ?_
  refine ev_callvI (pc1 := 443) (as := [.int ((xs (i + 1)).toUInt32 % 65536).toInt32]) (r := [.int x1]) (TBof tbs_153 _ rfl) rfl (lnkof mo_153 ln_9_66) rfl na_118 ltc_73 (sh_73.trans (by rw [mo_118])) (Nat.le_of_ble_eq_true rfl) (PM_type hc M1 h1 D1 A (IM_X hJ f1) hw) (fun x2 M2 h2 D2 ⟨e3, e4, i2, f2⟩ => ?_)
  subst e4
  exact ev_icmp (pc1 := 446) (t := 699) (TBof tbs_153 _ rfl) (by decide) rfl (fun _ => k M2 h2 D2 _ (IX_M i1 f2) i2 (K_type hw)) (fun z => absurd (e1.trans e3.symm) z)
set_option maxRecDepth 100000 in
theorem LW_clearText (hL : Lb ≤ 2560) (hi : i + 5 ≤ Lb) (hc : c ≤ 512) (hI : IX M h A) (hJ : IM M D A) (hw : wfA c A) (k : ∀ M1 h1 D1 A1, IX M1 h1 A1 → IM M1 D1 A1 → wfA (c + 1) A1 → Ev 9 (some (Lb, xs)) 153 699 (Lw i) [] M1 h1 D1 Q) : Ev 9 (some (Lb, xs)) 153 448 (Lw i) [] M h D Q := by
  refine ev_aload_n (n := 1) (v := .ref 0) (pc1 := 449) rfl rfl (TBof tbs_153 _ rfl) rfl ?_
  refine ev_callvI (pc1 := 452) (as := []) (r := []) (TBof tbs_153 _ rfl) rfl (lnkof mo_153 ln_9_67) rfl na_61 ltc_0 (sh_0.trans (by rw [mo_61])) (Nat.le_of_ble_eq_true rfl) (PX_clearText M h D A hI hw) (fun x1 M1 h1 D1 ⟨e1, e2, i1, f1⟩ => ?_)
  subst e2
  refine ev_aload_n (n := 2) (v := .ref 73) (pc1 := 453) rfl rfl (TBof tbs_153 _ rfl) rfl ?_
  refine ev_callvI (pc1 := 456) (as := []) (r := [.int x1]) (TBof tbs_153 _ rfl) rfl (lnkof mo_153 ln_9_70) rfl na_119 ltc_73 (sh_73.trans (by rw [mo_119])) (Nat.le_of_ble_eq_true rfl) (PM_clearText hc M1 h1 D1 A (IM_X hJ f1) hw) (fun x2 M2 h2 D2 ⟨e3, e4, i2, f2⟩ => ?_)
  subst e4
  exact ev_icmp (pc1 := 459) (t := 699) (TBof tbs_153 _ rfl) (by decide) rfl (fun _ => k M2 h2 D2 _ (IX_M i1 f2) i2 (K_clear hw)) (fun z => absurd (e1.trans e3.symm) z)
set_option maxRecDepth 100000 in
theorem LW_undo (hL : Lb ≤ 2560) (hi : i + 5 ≤ Lb) (hc : c ≤ 512) (hI : IX M h A) (hJ : IM M D A) (hw : wfA c A) (k : ∀ M1 h1 D1 A1, IX M1 h1 A1 → IM M1 D1 A1 → wfA (c + 1) A1 → Ev 9 (some (Lb, xs)) 153 699 (Lw i) [] M1 h1 D1 Q) : Ev 9 (some (Lb, xs)) 153 461 (Lw i) [] M h D Q := by
  refine ev_aload_n (n := 1) (v := .ref 0) (pc1 := 462) rfl rfl (TBof tbs_153 _ rfl) rfl ?_
  refine ev_callvI (pc1 := 465) (as := []) (r := []) (TBof tbs_153 _ rfl) rfl (lnkof mo_153 ln_9_71) rfl na_62 ltc_0 (sh_0.trans (by rw [mo_62])) (Nat.le_of_ble_eq_true rfl) (PX_undo M h D A hI hw) (fun x1 M1 h1 D1 ⟨e1, e2, i1, f1⟩ => ?_)
  subst e2
  refine ev_aload_n (n := 2) (v := .ref 73) (pc1 := 466) rfl rfl (TBof tbs_153 _ rfl) rfl ?_
  refine ev_callvI (pc1 := 469) (as := []) (r := [.int x1]) (TBof tbs_153 _ rfl) rfl (lnkof mo_153 ln_9_74) rfl na_120 ltc_73 (sh_73.trans (by rw [mo_120])) (Nat.le_of_ble_eq_true rfl) (PM_undo hc M1 h1 D1 A (IM_X hJ f1) hw) (fun x2 M2 h2 D2 ⟨e3, e4, i2, f2⟩ => ?_)
  subst e4
  exact ev_icmp (pc1 := 472) (t := 699) (TBof tbs_153 _ rfl) (by decide) rfl (fun _ => k M2 h2 D2 _ (IX_M i1 f2) i2 (K_undo hw)) (fun z => absurd (e1.trans e3.symm) z)
set_option maxRecDepth 100000 in
theorem LW_keep (hL : Lb ≤ 2560) (hi : i + 5 ≤ Lb) (hc : c ≤ 512) (hI : IX M h A) (hJ : IM M D A) (hw : wfA c A) (k : ∀ M1 h1 D1 A1, IX M1 h1 A1 → IM M1 D1 A1 → wfA (c + 1) A1 → Ev 9 (some (Lb, xs)) 153 699 (Lw i) [] M1 h1 D1 Q) : Ev 9 (some (Lb, xs)) 153 474 (Lw i) [] M h D Q := by
  refine ev_aload_n (n := 1) (v := .ref 0) (pc1 := 475) rfl rfl (TBof tbs_153 _ rfl) rfl ?_
  refine ev_callvI (pc1 := 478) (as := []) (r := []) (TBof tbs_153 _ rfl) rfl (lnkof mo_153 ln_9_75) rfl na_63 ltc_0 (sh_0.trans (by rw [mo_63])) (Nat.le_of_ble_eq_true rfl) (PX_keep M h D A hI hw) (fun x1 M1 h1 D1 ⟨e1, e2, i1, f1⟩ => ?_)
  subst e2
  refine ev_aload_n (n := 2) (v := .ref 73) (pc1 := 479) rfl rfl (TBof tbs_153 _ rfl) rfl ?_
  refine ev_callvI (pc1 := 482) (as := []) (r := [.int x1]) (TBof tbs_153 _ rfl) rfl (lnkof mo_153 ln_9_78) rfl na_121 ltc_73 (sh_73.trans (by rw [mo_121])) (Nat.le_of_ble_eq_true rfl) (PM_keep hc M1 h1 D1 A (IM_X hJ f1) hw) (fun x2 M2 h2 D2 ⟨e3, e4, i2, f2⟩ => ?_)
  subst e4
  exact ev_icmp (pc1 := 485) (t := 699) (TBof tbs_153 _ rfl) (by decide) rfl (fun _ => k M2 h2 D2 _ (IX_M i1 f2) i2 (K_keep hw)) (fun z => absurd (e1.trans e3.symm) z)
set_option maxRecDepth 100000 in
theorem LW_restore (hL : Lb ≤ 2560) (hi : i + 5 ≤ Lb) (hc : c ≤ 512) (hI : IX M h A) (hJ : IM M D A) (hw : wfA c A) (k : ∀ M1 h1 D1 A1, IX M1 h1 A1 → IM M1 D1 A1 → wfA (c + 1) A1 → Ev 9 (some (Lb, xs)) 153 699 (Lw i) [] M1 h1 D1 Q) : Ev 9 (some (Lb, xs)) 153 487 (Lw i) [] M h D Q := by
  refine ev_aload_n (n := 1) (v := .ref 0) (pc1 := 488) rfl rfl (TBof tbs_153 _ rfl) rfl ?_
  refine ev_callvI (pc1 := 491) (as := []) (r := []) (TBof tbs_153 _ rfl) rfl (lnkof mo_153 ln_9_79) rfl na_64 ltc_0 (sh_0.trans (by rw [mo_64])) (Nat.le_of_ble_eq_true rfl) (PX_restore M h D A hI hw) (fun x1 M1 h1 D1 ⟨e1, e2, i1, f1⟩ => ?_)
  subst e2
  refine ev_aload_n (n := 2) (v := .ref 73) (pc1 := 492) rfl rfl (TBof tbs_153 _ rfl) rfl ?_
  refine ev_callvI (pc1 := 495) (as := []) (r := [.int x1]) (TBof tbs_153 _ rfl) rfl (lnkof mo_153 ln_9_82) rfl na_122 ltc_73 (sh_73.trans (by rw [mo_122])) (Nat.le_of_ble_eq_true rfl) (PM_restore hc M1 h1 D1 A (IM_X hJ f1) hw) (fun x2 M2 h2 D2 ⟨e3, e4, i2, f2⟩ => ?_)
  subst e4
  exact ev_icmp (pc1 := 498) (t := 699) (TBof tbs_153 _ rfl) (by decide) rfl (fun _ => k M2 h2 D2 _ (IX_M i1 f2) i2 (K_restore hw)) (fun z => absurd (e1.trans e3.symm) z)
set_option maxRecDepth 100000 in
theorem LW_drawer (hL : Lb ≤ 2560) (hi : i + 5 ≤ Lb) (hc : c ≤ 512) (hI : IX M h A) (hJ : IM M D A) (hw : wfA c A) (k : ∀ M1 h1 D1 A1, IX M1 h1 A1 → IM M1 D1 A1 → wfA (c + 1) A1 → Ev 9 (some (Lb, xs)) 153 699 (Lw i) [] M1 h1 D1 Q) : Ev 9 (some (Lb, xs)) 153 500 (Lw i) [] M h D Q := by
  refine ev_aload_n (n := 1) (v := .ref 0) (pc1 := 501) rfl rfl (TBof tbs_153 _ rfl) rfl ?_
  refine law_arg (pc := 501) (j := 1) (p5 := 506) hL (by omega) (by decide) (TBof tbs_153 _ rfl) (TBof tbs_153 _ rfl) (TBof tbs_153 _ rfl) (TBof tbs_153 _ rfl) (TBof tbs_153 _ rfl) rfl ?_
  refine law_arg (pc := 506) (j := 2) (p5 := 511) hL (by omega) (by decide) (TBof tbs_153 _ rfl) (TBof tbs_153 _ rfl) (TBof tbs_153 _ rfl) (TBof tbs_153 _ rfl) (TBof tbs_153 _ rfl) rfl ?_
  refine ev_callvI (pc1 := 514) (as := [.int (xs (i + 1)), .int (xs (i + 2))]) (r := []) (TBof tbs_153 _ rfl) rfl (lnkof mo_153 ln_9_83) rfl na_65 ltc_0 (sh_0.trans (by rw [mo_65])) (Nat.le_of_ble_eq_true rfl) (PX_drawer M h D A hI hw) (fun x1 M1 h1 D1 ⟨e1, e2, i1, f1⟩ => ?_)
  subst e2
  refine ev_aload_n (n := 2) (v := .ref 73) (pc1 := 515) rfl rfl (TBof tbs_153 _ rfl) rfl ?_
  refine law_arg (pc := 515) (j := 1) (p5 := 520) hL (by omega) (by decide) (TBof tbs_153 _ rfl) (TBof tbs_153 _ rfl) (TBof tbs_153 _ rfl) (TBof tbs_153 _ rfl) (TBof tbs_153 _ rfl) rfl ?_
  refine law_arg (pc := 520) (j := 2) (p5 := 525) hL (by omega) (by decide) (TBof tbs_153 _ rfl) (TBof tbs_153 _ rfl) (TBof tbs_153 _ rfl) (TBof tbs_153 _ rfl) (TBof tbs_153 _ rfl) rfl ?_
  refine ev_callvI (pc1 := 528) (as := [.int (xs (i + 1)), .int (xs (i + 2))]) (r := [.int x1]) (TBof tbs_153 _ rfl) rfl (lnkof mo_153 ln_9_86) rfl na_141 ltc_73 (sh_73.trans (by rw [mo_141])) (Nat.le_of_ble_eq_true rfl) (PM_drawer hc M1 h1 D1 A (IM_X hJ f1) hw) (fun x2 M2 h2 D2 ⟨e3, e4, i2, f2⟩ => ?_)
  subst e4
  exact ev_icmp (pc1 := 531) (t := 699) (TBof tbs_153 _ rfl) (by decide) rfl (fun _ => k M2 h2 D2 _ (IX_M i1 f2) i2 hw.up) (fun z => absurd (e1.trans e3.symm) z)
set_option maxRecDepth 100000 in
theorem LW_thing (hL : Lb ≤ 2560) (hi : i + 5 ≤ Lb) (hc : c ≤ 512) (hI : IX M h A) (hJ : IM M D A) (hw : wfA c A) (k : ∀ M1 h1 D1 A1, IX M1 h1 A1 → IM M1 D1 A1 → wfA (c + 1) A1 → Ev 9 (some (Lb, xs)) 153 699 (Lw i) [] M1 h1 D1 Q) : Ev 9 (some (Lb, xs)) 153 533 (Lw i) [] M h D Q := by
  refine ev_aload_n (n := 1) (v := .ref 0) (pc1 := 534) rfl rfl (TBof tbs_153 _ rfl) rfl ?_
  refine law_arg (pc := 534) (j := 1) (p5 := 539) hL (by omega) (by decide) (TBof tbs_153 _ rfl) (TBof tbs_153 _ rfl) (TBof tbs_153 _ rfl) (TBof tbs_153 _ rfl) (TBof tbs_153 _ rfl) rfl ?_
  refine law_arg (pc := 539) (j := 2) (p5 := 544) hL (by omega) (by decide) (TBof tbs_153 _ rfl) (TBof tbs_153 _ rfl) (TBof tbs_153 _ rfl) (TBof tbs_153 _ rfl) (TBof tbs_153 _ rfl) rfl ?_
  refine ev_callvI (pc1 := 547) (as := [.int (xs (i + 1)), .int (xs (i + 2))]) (r := []) (TBof tbs_153 _ rfl) rfl (lnkof mo_153 ln_9_87) rfl na_66 ltc_0 (sh_0.trans (by rw [mo_66])) (Nat.le_of_ble_eq_true rfl) (PX_thing M h D A hI hw) (fun x1 M1 h1 D1 ⟨e1, e2, i1, f1⟩ => ?_)
  subst e2
  refine ev_aload_n (n := 2) (v := .ref 73) (pc1 := 548) rfl rfl (TBof tbs_153 _ rfl) rfl ?_
  refine law_arg (pc := 548) (j := 1) (p5 := 553) hL (by omega) (by decide) (TBof tbs_153 _ rfl) (TBof tbs_153 _ rfl) (TBof tbs_153 _ rfl) (TBof tbs_153 _ rfl) (TBof tbs_153 _ rfl) rfl ?_
  refine law_arg (pc := 553) (j := 2) (p5 := 558) hL (by omega) (by decide) (TBof tbs_153 _ rfl) (TBof tbs_153 _ rfl) (TBof tbs_153 _ rfl) (TBof tbs_153 _ rfl) (TBof tbs_153 _ rfl) rfl ?_
  refine ev_callvI (pc1 := 561) (as := [.int (xs (i + 1)), .int (xs (i + 2))]) (r := [.int x1]) (TBof tbs_153 _ rfl) rfl (lnkof mo_153 ln_9_90) rfl na_142 ltc_73 (sh_73.trans (by rw [mo_142])) (Nat.le_of_ble_eq_true rfl) (PM_thing hc M1 h1 D1 A (IM_X hJ f1) hw) (fun x2 M2 h2 D2 ⟨e3, e4, i2, f2⟩ => ?_)
  subst e4
  exact ev_icmp (pc1 := 564) (t := 699) (TBof tbs_153 _ rfl) (by decide) rfl (fun _ => k M2 h2 D2 _ (IX_M i1 f2) i2 hw.up) (fun z => absurd (e1.trans e3.symm) z)
set_option maxRecDepth 100000 in
theorem LW_needs (hL : Lb ≤ 2560) (hi : i + 5 ≤ Lb) (hc : c ≤ 512) (hI : IX M h A) (hJ : IM M D A) (hw : wfA c A) (k : ∀ M1 h1 D1 A1, IX M1 h1 A1 → IM M1 D1 A1 → wfA (c + 1) A1 → Ev 9 (some (Lb, xs)) 153 699 (Lw i) [] M1 h1 D1 Q) : Ev 9 (some (Lb, xs)) 153 566 (Lw i) [] M h D Q := by
  refine ev_aload_n (n := 1) (v := .ref 0) (pc1 := 567) rfl rfl (TBof tbs_153 _ rfl) rfl ?_
  refine law_arg (pc := 567) (j := 1) (p5 := 572) hL (by omega) (by decide) (TBof tbs_153 _ rfl) (TBof tbs_153 _ rfl) (TBof tbs_153 _ rfl) (TBof tbs_153 _ rfl) (TBof tbs_153 _ rfl) rfl ?_
  refine law_arg (pc := 572) (j := 2) (p5 := 577) hL (by omega) (by decide) (TBof tbs_153 _ rfl) (TBof tbs_153 _ rfl) (TBof tbs_153 _ rfl) (TBof tbs_153 _ rfl) (TBof tbs_153 _ rfl) rfl ?_
  refine ev_callvI (pc1 := 580) (as := [.int (xs (i + 1)), .int (xs (i + 2))]) (r := []) (TBof tbs_153 _ rfl) rfl (lnkof mo_153 ln_9_91) rfl na_67 ltc_0 (sh_0.trans (by rw [mo_67])) (Nat.le_of_ble_eq_true rfl) (PX_needs M h D A hI hw) (fun x1 M1 h1 D1 ⟨e1, e2, i1, f1⟩ => ?_)
  subst e2
  refine ev_aload_n (n := 2) (v := .ref 73) (pc1 := 581) rfl rfl (TBof tbs_153 _ rfl) rfl ?_
  refine law_arg (pc := 581) (j := 1) (p5 := 586) hL (by omega) (by decide) (TBof tbs_153 _ rfl) (TBof tbs_153 _ rfl) (TBof tbs_153 _ rfl) (TBof tbs_153 _ rfl) (TBof tbs_153 _ rfl) rfl ?_
  refine law_arg (pc := 586) (j := 2) (p5 := 591) hL (by omega) (by decide) (TBof tbs_153 _ rfl) (TBof tbs_153 _ rfl) (TBof tbs_153 _ rfl) (TBof tbs_153 _ rfl) (TBof tbs_153 _ rfl) rfl ?_
  refine ev_callvI (pc1 := 594) (as := [.int (xs (i + 1)), .int (xs (i + 2))]) (r := [.int x1]) (TBof tbs_153 _ rfl) rfl (lnkof mo_153 ln_9_94) rfl na_137 ltc_73 (sh_73.trans (by rw [mo_137])) (Nat.le_of_ble_eq_true rfl) (PM_needs hc M1 h1 D1 A (IM_X hJ f1) hw) (fun x2 M2 h2 D2 ⟨e3, e4, i2, f2⟩ => ?_)
  subst e4
  exact ev_icmp (pc1 := 597) (t := 699) (TBof tbs_153 _ rfl) (by decide) rfl (fun _ => k M2 h2 D2 _ (IX_M i1 f2) i2 hw.up) (fun z => absurd (e1.trans e3.symm) z)
set_option maxRecDepth 100000 in
theorem LW_hint (hL : Lb ≤ 2560) (hi : i + 5 ≤ Lb) (hc : c ≤ 512) (hI : IX M h A) (hJ : IM M D A) (hw : wfA c A) (k : ∀ M1 h1 D1 A1, IX M1 h1 A1 → IM M1 D1 A1 → wfA (c + 1) A1 → Ev 9 (some (Lb, xs)) 153 699 (Lw i) [] M1 h1 D1 Q) : Ev 9 (some (Lb, xs)) 153 599 (Lw i) [] M h D Q := by
  refine ev_aload_n (n := 1) (v := .ref 0) (pc1 := 600) rfl rfl (TBof tbs_153 _ rfl) rfl ?_
  refine law_arg (pc := 600) (j := 1) (p5 := 605) hL (by omega) (by decide) (TBof tbs_153 _ rfl) (TBof tbs_153 _ rfl) (TBof tbs_153 _ rfl) (TBof tbs_153 _ rfl) (TBof tbs_153 _ rfl) rfl ?_
  refine ev_callvI (pc1 := 608) (as := [.int (xs (i + 1))]) (r := []) (TBof tbs_153 _ rfl) rfl (lnkof mo_153 ln_9_95) rfl na_68 ltc_0 (sh_0.trans (by rw [mo_68])) (Nat.le_of_ble_eq_true rfl) (PX_hint M h D A hI hw) (fun x1 M1 h1 D1 ⟨e1, e2, i1, f1⟩ => ?_)
  subst e2
  refine ev_aload_n (n := 2) (v := .ref 73) (pc1 := 609) rfl rfl (TBof tbs_153 _ rfl) rfl ?_
  refine law_arg (pc := 609) (j := 1) (p5 := 614) hL (by omega) (by decide) (TBof tbs_153 _ rfl) (TBof tbs_153 _ rfl) (TBof tbs_153 _ rfl) (TBof tbs_153 _ rfl) (TBof tbs_153 _ rfl) rfl ?_
  refine ev_callvI (pc1 := 617) (as := [.int (xs (i + 1))]) (r := [.int x1]) (TBof tbs_153 _ rfl) rfl (lnkof mo_153 ln_9_98) rfl na_138 ltc_73 (sh_73.trans (by rw [mo_138])) (Nat.le_of_ble_eq_true rfl) (PM_hint hc M1 h1 D1 A (IM_X hJ f1) hw) (fun x2 M2 h2 D2 ⟨e3, e4, i2, f2⟩ => ?_)
  subst e4
  exact ev_icmp (pc1 := 620) (t := 699) (TBof tbs_153 _ rfl) (by decide) rfl (fun _ => k M2 h2 D2 _ (IX_M i1 f2) i2 hw.up) (fun z => absurd (e1.trans e3.symm) z)
set_option maxRecDepth 100000 in
theorem LW_minutesBits (hL : Lb ≤ 2560) (hi : i + 5 ≤ Lb) (hc : c ≤ 512) (hI : IX M h A) (hJ : IM M D A) (hw : wfA c A) (k : ∀ M1 h1 D1 A1, IX M1 h1 A1 → IM M1 D1 A1 → wfA (c + 1) A1 → Ev 9 (some (Lb, xs)) 153 699 (Lw i) [] M1 h1 D1 Q) : Ev 9 (some (Lb, xs)) 153 663 (Lw i) [] M h D Q := by
  refine ev_aload_n (n := 1) (v := .ref 0) (pc1 := 664) rfl rfl (TBof tbs_153 _ rfl) rfl ?_
  refine ev_callvI (pc1 := 667) (as := []) (r := []) (TBof tbs_153 _ rfl) rfl (lnkof mo_153 ln_9_104) rfl na_70 ltc_0 (sh_0.trans (by rw [mo_70])) (Nat.le_of_ble_eq_true rfl) (PX_minutesBits hc M h D A hI hw) (fun x1 M1 h1 D1 ⟨e1, e2, i1, f1⟩ => ?_)
  subst e2
  refine ev_aload_n (n := 2) (v := .ref 73) (pc1 := 668) rfl rfl (TBof tbs_153 _ rfl) rfl ?_
  refine ev_callvI (pc1 := 671) (as := []) (r := [.int x1]) (TBof tbs_153 _ rfl) rfl (lnkof mo_153 ln_9_107) rfl na_144 ltc_73 (sh_73.trans (by rw [mo_144])) (Nat.le_of_ble_eq_true rfl) (PM_minutesBits hc M1 h1 D1 A (IM_X hJ f1) hw) (fun x2 M2 h2 D2 ⟨e3, e4, i2, f2⟩ => ?_)
  subst e4
  exact ev_icmp (pc1 := 674) (t := 699) (TBof tbs_153 _ rfl) (by decide) rfl (fun _ => k M2 h2 D2 _ (IX_M i1 f2) i2 hw.up) (fun z => absurd (e1.trans e3.symm) z)
set_option maxRecDepth 100000 in
theorem LW_count (hL : Lb ≤ 2560) (hi : i + 5 ≤ Lb) (hc : c ≤ 512) (hI : IX M h A) (hJ : IM M D A) (hw : wfA c A) (k : ∀ M1 h1 D1 A1, IX M1 h1 A1 → IM M1 D1 A1 → wfA (c + 1) A1 → Ev 9 (some (Lb, xs)) 153 699 (Lw i) [] M1 h1 D1 Q) : Ev 9 (some (Lb, xs)) 153 676 (Lw i) [] M h D Q := by
  refine ev_aload_n (n := 1) (v := .ref 0) (pc1 := 677) rfl rfl (TBof tbs_153 _ rfl) rfl ?_
  refine law_arg (pc := 677) (j := 1) (p5 := 682) hL (by omega) (by decide) (TBof tbs_153 _ rfl) (TBof tbs_153 _ rfl) (TBof tbs_153 _ rfl) (TBof tbs_153 _ rfl) (TBof tbs_153 _ rfl) rfl ?_
  refine ev_callvI (pc1 := 685) (as := [.int (xs (i + 1))]) (r := []) (TBof tbs_153 _ rfl) rfl (lnkof mo_153 ln_9_108) rfl na_71 ltc_0 (sh_0.trans (by rw [mo_71])) (Nat.le_of_ble_eq_true rfl) (PX_count M h D A hI hw) (fun x1 M1 h1 D1 ⟨e1, e2, i1, f1⟩ => ?_)
  subst e2
  refine ev_aload_n (n := 2) (v := .ref 73) (pc1 := 686) rfl rfl (TBof tbs_153 _ rfl) rfl ?_
  refine law_arg (pc := 686) (j := 1) (p5 := 691) hL (by omega) (by decide) (TBof tbs_153 _ rfl) (TBof tbs_153 _ rfl) (TBof tbs_153 _ rfl) (TBof tbs_153 _ rfl) (TBof tbs_153 _ rfl) rfl ?_
  refine ev_callvI (pc1 := 694) (as := [.int (xs (i + 1))]) (r := [.int x1]) (TBof tbs_153 _ rfl) rfl (lnkof mo_153 ln_9_111) rfl na_148 ltc_73 (sh_73.trans (by rw [mo_148])) (Nat.le_of_ble_eq_true rfl) (PM_count hc M1 h1 D1 A (IM_X hJ f1) hw) (fun x2 M2 h2 D2 ⟨e3, e4, i2, f2⟩ => ?_)
  subst e4
  exact ev_icmp (pc1 := 697) (t := 699) (TBof tbs_153 _ rfl) (by decide) rfl (fun _ => k M2 h2 D2 _ (IX_M i1 f2) i2 hw.up) (fun z => absurd (e1.trans e3.symm) z)
end LW

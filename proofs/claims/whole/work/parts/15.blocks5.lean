/-! what each block of code asks: class 5 -/
set_option maxRecDepth 100000 in
theorem R_Jxf58ca_isNaN_12338_0 {d : Nat} {v0 : UInt32} {M : Im} {h : Hm} {D : Dm} {Q : Int32 → Im → Hm → Dm → Prop} (H : (((Op.cmpValue (FP.fcmp v0 v0) CmpOp.l) = 0) → (Q 0 M h D)) ∧ (¬ ((Op.cmpValue (FP.fcmp v0 v0) CmpOp.l) = 0) → (Q 1 M h D))) : EvI d nJxf58ca_isNaN_12338 0 [(0, .float v0)] [] M h D Q := by
  refine ev_fload_n (pc1 := 1) rfl (TBof tbs_149 _ rfl) rfl ?_
  refine ev_fload_n (pc1 := 2) rfl (TBof tbs_149 _ rfl) rfl ?_
  refine ev_fcmp (pc1 := 3) (TBof tbs_149 _ rfl) rfl ?_
  refine ev_if (pc1 := 6) (t := 10) (TBof tbs_149 _ rfl) (by decide) rfl (fun c1 => ?_) (fun c1 => ?_)
  · replace H := H.1 c1
    refine ev_iconst (pc1 := 11) (x := 0) (by decide) (TBof tbs_149 _ rfl) rfl ?_
    exact ev_ireturn (TBof tbs_149 _ rfl) (retI_z rt_149 (Or.inl rfl)) ⟨_, rfl, H⟩
  · replace H := H.2 c1
    refine ev_iconst (pc1 := 7) (x := 1) (by decide) (TBof tbs_149 _ rfl) rfl ?_
    refine ev_goto (pc1 := 11) (TBof tbs_149 _ rfl) (by decide) ?_
    exact ev_ireturn (TBof tbs_149 _ rfl) (retI_z rt_149 (Or.inr rfl)) ⟨_, rfl, H⟩
set_option maxRecDepth 100000 in
theorem R_Jxf58ca_floatToIntBits_5c35a_0 {d : Nat} {v0 : UInt32} {M : Im} {h : Hm} {D : Dm} {Q : Int32 → Im → Hm → Dm → Prop} (H : CI d nJxf58ca_isNaN_12338 [.float v0] M h D (fun x1 M1 h1 D1 => ((¬ (x1 = 0)) → (Q 2143289344 M1 h1 D1)) ∧ (¬ (¬ (x1 = 0)) → (1 ≤ d ∧ (Q v0.toInt32 M1 h1 D1))))) : EvI d nJxf58ca_floatToIntBits_5c35a 0 [(0, .float v0)] [] M h D Q := by
  refine ev_fload_n (pc1 := 1) rfl (TBof tbs_150 _ rfl) rfl ?_
  refine ev_callsI (pc1 := 4) (as := [.float v0]) (r := []) (TBof tbs_150 _ rfl) rfl (lnkof mo_150 ln_5_59) (Or.inl rfl) rfl na_149 (Nat.le_of_ble_eq_true rfl) H (fun x1 M1 h1 D1 H => ?_)
  refine ev_if (pc1 := 7) (t := 12) (TBof tbs_150 _ rfl) (by decide) rfl (fun c2 => ?_) (fun c2 => ?_)
  · replace H := H.1 c2
    refine ev_ldc (pc1 := 14) (x := 2143289344) rfl (TBof tbs_150 _ rfl) rfl ?_
    exact ev_ireturn (TBof tbs_150 _ rfl) (retI_i rt_150) ⟨_, rfl, H⟩
  · replace H := H.2 c2
    refine ev_fload_n (pc1 := 8) rfl (TBof tbs_150 _ rfl) rfl ?_
    refine ev_f2raw (pc1 := 11) (TBof tbs_150 _ rfl) rfl (lnkof mo_150 ln_5_74) (Nat.le_of_ble_eq_true rfl) H.1 ?_
    replace H := H.2
    exact ev_ireturn (TBof tbs_150 _ rfl) (retI_i rt_150) ⟨_, rfl, H⟩

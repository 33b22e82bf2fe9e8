/-! what each block of the law asks: cell -/
set_option maxRecDepth 100000 in
theorem R_L_cell_0 {Lb : Nat} {xs : Nat → Int32} {e : Nat} {c : Nat} {A : Ab} {v1 : Int32} {Q : Int32 → Ab → Prop} (hLb : Lb ≤ 260) (H : (((Int32.ofNat Lb) ≤ v1) → (Q (((15485959 * v1) + 1309) &&& 2147483647) A)) ∧ (¬ ((Int32.ofNat Lb) ≤ v1) → (vp_in v1 Lb ∧ (Q ((xs v1.toNatClampNeg) &&& 2147483647) A)))) : EA (some (Lb, xs)) (e) nL_cell 0 [(0, .retAddr 0), (1, .int v1)] [] A Q := by
  intro M h D hI
  refine ev_iload_n (pc1 := 1) rfl (TBof tbs_70 _ rfl) rfl ?_
  refine ev_aload_n (pc1 := 2) rfl rfl (TBof tbs_70 _ rfl) rfl ?_
  refine ev_slen (pc1 := 3) (TBof tbs_70 _ rfl) rfl rfl ?_
  refine ev_icmp (pc1 := 6) (t := 12) (TBof tbs_70 _ rfl) (by decide) rfl (fun c1 => ?_) (fun c1 => ?_)
  · replace H := H.1 c1
    refine ev_ldc (pc1 := 14) (x := 15485959) rfl (TBof tbs_70 _ rfl) rfl ?_
    refine ev_iload_n (pc1 := 15) rfl (TBof tbs_70 _ rfl) rfl ?_
    refine ev_imul (pc1 := 16) (TBof tbs_70 _ rfl) rfl ?_
    refine ev_sipush (pc1 := 19) (x := 1309) (by decide) (TBof tbs_70 _ rfl) rfl ?_
    refine ev_iadd (pc1 := 20) (TBof tbs_70 _ rfl) rfl ?_
    refine ev_ldc (pc1 := 22) (x := 2147483647) rfl (TBof tbs_70 _ rfl) rfl ?_
    refine ev_iand (pc1 := 23) (TBof tbs_70 _ rfl) rfl ?_
    exact ev_ireturn (TBof tbs_70 _ rfl) (retI_i rt_70) ⟨_, rfl, _, H, hI⟩
  · replace H := H.2 c1
    refine ev_aload_n (pc1 := 7) rfl rfl (TBof tbs_70 _ rfl) rfl ?_
    refine ev_iload_n (pc1 := 8) rfl (TBof tbs_70 _ rfl) rfl ?_
    refine ev_saload (pc1 := 9) (TBof tbs_70 _ rfl) rfl rfl H.1 ?_
    replace H := H.2
    refine ev_goto (pc1 := 20) (TBof tbs_70 _ rfl) (by decide) ?_
    refine ev_ldc (pc1 := 22) (x := 2147483647) rfl (TBof tbs_70 _ rfl) rfl ?_
    refine ev_iand (pc1 := 23) (TBof tbs_70 _ rfl) rfl ?_
    exact ev_ireturn (TBof tbs_70 _ rfl) (retI_i rt_70) ⟨_, rfl, _, H, hI⟩

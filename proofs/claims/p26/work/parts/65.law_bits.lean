/-! what each block of the law asks: bits -/
set_option maxRecDepth 100000 in
theorem R_L_bits_0 {scr : Option (Nat × (Nat → Int32))} {e : Nat} {c : Nat} {A : Ab} {v0 : Int32} {Q : Int32 → Ab → Prop} (H : EA scr (e) nL_bits 4 [(0, .int v0), (1, .int 0), (2, .int 0)] [] A Q) : EA scr (e) nL_bits 0 [(0, .int v0)] [] A Q := by
  intro M h D hI
  refine ev_iconst (pc1 := 1) (x := 0) (by decide) (TBof tbs_71 _ rfl) rfl ?_
  refine ev_istore_n (pc1 := 2) (L1 := [(1, .int 0), (0, .int v0)]) (by rw [ml_71]; decide) rfl (TBof tbs_71 _ rfl) rfl ?_
  refine ev_iconst (pc1 := 3) (x := 0) (by decide) (TBof tbs_71 _ rfl) rfl ?_
  refine ev_istore_n (pc1 := 4) (L1 := [(2, .int 0), (1, .int 0), (0, .int v0)]) (by rw [ml_71]; decide) rfl (TBof tbs_71 _ rfl) rfl ?_
  exact ev_le [2, 1, 0] rfl rfl (H _ _ _ hI)
set_option maxRecDepth 100000 in
theorem R_L_bits_4 {scr : Option (Nat × (Nat → Int32))} {e : Nat} {c : Nat} {A : Ab} {v0 v1 v2 : Int32} {Q : Int32 → Ab → Prop} (H : ((16 ≤ v2) → (Q v1 A)) ∧ (¬ (16 ≤ v2) → (EA scr (e) nL_bits 4 [(0, .int v0), (1, .int (v1 + ((v0 >>> (v2 &&& 31)) &&& 1))), (2, .int (v2 + 1))] [] A Q))) : EA scr (e) nL_bits 4 [(0, .int v0), (1, .int v1), (2, .int v2)] [] A Q := by
  intro M h D hI
  refine ev_iload_n (pc1 := 5) rfl (TBof tbs_71 _ rfl) rfl ?_
  refine ev_bipush (pc1 := 7) (x := 16) (by decide) (TBof tbs_71 _ rfl) rfl ?_
  refine ev_icmp (pc1 := 10) (t := 24) (TBof tbs_71 _ rfl) (by decide) rfl (fun c1 => ?_) (fun c1 => ?_)
  · replace H := H.1 c1
    refine ev_iload_n (pc1 := 25) rfl (TBof tbs_71 _ rfl) rfl ?_
    exact ev_ireturn (TBof tbs_71 _ rfl) (retI_i rt_71) ⟨_, rfl, _, H, hI⟩
  · replace H := H.2 c1
    refine ev_iload_n (pc1 := 11) rfl (TBof tbs_71 _ rfl) rfl ?_
    refine ev_iload_n (pc1 := 12) rfl (TBof tbs_71 _ rfl) rfl ?_
    refine ev_iload_n (pc1 := 13) rfl (TBof tbs_71 _ rfl) rfl ?_
    refine ev_ishr (pc1 := 14) (TBof tbs_71 _ rfl) rfl ?_
    refine ev_iconst (pc1 := 15) (x := 1) (by decide) (TBof tbs_71 _ rfl) rfl ?_
    refine ev_iand (pc1 := 16) (TBof tbs_71 _ rfl) rfl ?_
    refine ev_iadd (pc1 := 17) (TBof tbs_71 _ rfl) rfl ?_
    refine ev_istore_n (pc1 := 18) (L1 := [(1, .int (v1 + ((v0 >>> (v2 &&& 31)) &&& 1))), (0, .int v0), (2, .int v2)]) (by rw [ml_71]; decide) rfl (TBof tbs_71 _ rfl) rfl ?_
    refine ev_iinc (pc1 := 21) (n := 2) (c := 1) (x := v2) (cc := 1) (L1 := [(2, .int (v2 + 1)), (1, .int (v1 + ((v0 >>> (v2 &&& 31)) &&& 1))), (0, .int v0)]) rfl (by rw [ml_71]; decide) (by decide) rfl (TBof tbs_71 _ rfl) rfl ?_
    refine ev_goto (pc1 := 4) (TBof tbs_71 _ rfl) (by decide) ?_
    exact ev_le [2, 1, 0] rfl rfl (H _ _ _ hI)

/-! what each block of code asks: class 4 -/
set_option maxRecDepth 100000 in
theorem R_J6_bitCount_0f7a4_0 {d : Nat} {v0 : Int32} {M : Im} {h : Hm} {D : Dm} {Q : Int32 → Im → Hm → Dm → Prop} (H : ∀ w1 : Int32, w1 = ((v0 - (((v0.toUInt32 >>> ((1 : Int32).toUInt32 &&& Int32.toUInt32 31)).toInt32) &&& 1431655765)) &&& 858993459) + ((((v0 - (((v0.toUInt32 >>> ((1 : Int32).toUInt32 &&& Int32.toUInt32 31)).toInt32) &&& 1431655765)).toUInt32 >>> ((2 : Int32).toUInt32 &&& Int32.toUInt32 31)).toInt32) &&& 858993459) → (∀ w2 : Int32, w2 = ((w1 + ((w1.toUInt32 >>> ((4 : Int32).toUInt32 &&& Int32.toUInt32 31)).toInt32)) &&& 252645135) + ((((w1 + ((w1.toUInt32 >>> ((4 : Int32).toUInt32 &&& Int32.toUInt32 31)).toInt32)) &&& 252645135).toUInt32 >>> ((8 : Int32).toUInt32 &&& Int32.toUInt32 31)).toInt32) → (Q ((w2 + ((w2.toUInt32 >>> ((16 : Int32).toUInt32 &&& Int32.toUInt32 31)).toInt32)) &&& 63) M h D))) : EvI d nJ6_bitCount_0f7a4 0 [(0, .int v0)] [] M h D Q := by
  refine ev_iload_n (pc1 := 1) rfl (TBof tbs_68 _ rfl) rfl ?_
  refine ev_iload_n (pc1 := 2) rfl (TBof tbs_68 _ rfl) rfl ?_
  refine ev_iconst (pc1 := 3) (x := 1) (by decide) (TBof tbs_68 _ rfl) rfl ?_
  refine ev_iushr (pc1 := 4) (TBof tbs_68 _ rfl) rfl ?_
  refine ev_ldc_w (pc1 := 7) (x := 1431655765) rfl (TBof tbs_68 _ rfl) rfl ?_
  refine ev_iand (pc1 := 8) (TBof tbs_68 _ rfl) rfl ?_
  refine ev_isub (pc1 := 9) (TBof tbs_68 _ rfl) rfl ?_
  refine ev_istore_n (pc1 := 10) (L1 := [(0, .int (v0 - (((v0.toUInt32 >>> ((1 : Int32).toUInt32 &&& Int32.toUInt32 31)).toInt32) &&& 1431655765)))]) (by rw [ml_68]; decide) rfl (TBof tbs_68 _ rfl) rfl ?_
  refine ev_iload_n (pc1 := 11) rfl (TBof tbs_68 _ rfl) rfl ?_
  refine ev_ldc_w (pc1 := 14) (x := 858993459) rfl (TBof tbs_68 _ rfl) rfl ?_
  refine ev_iand (pc1 := 15) (TBof tbs_68 _ rfl) rfl ?_
  refine ev_iload_n (pc1 := 16) rfl (TBof tbs_68 _ rfl) rfl ?_
  refine ev_iconst (pc1 := 17) (x := 2) (by decide) (TBof tbs_68 _ rfl) rfl ?_
  refine ev_iushr (pc1 := 18) (TBof tbs_68 _ rfl) rfl ?_
  refine ev_ldc_w (pc1 := 21) (x := 858993459) rfl (TBof tbs_68 _ rfl) rfl ?_
  refine ev_iand (pc1 := 22) (TBof tbs_68 _ rfl) rfl ?_
  refine ev_iadd (pc1 := 23) (TBof tbs_68 _ rfl) rfl ?_
  refine ev_istore_n (pc1 := 24) (L1 := [(0, .int (((v0 - (((v0.toUInt32 >>> ((1 : Int32).toUInt32 &&& Int32.toUInt32 31)).toInt32) &&& 1431655765)) &&& 858993459) + ((((v0 - (((v0.toUInt32 >>> ((1 : Int32).toUInt32 &&& Int32.toUInt32 31)).toInt32) &&& 1431655765)).toUInt32 >>> ((2 : Int32).toUInt32 &&& Int32.toUInt32 31)).toInt32) &&& 858993459)))]) (by rw [ml_68]; decide) rfl (TBof tbs_68 _ rfl) rfl ?_
  generalize e1 : ((v0 - (((v0.toUInt32 >>> ((1 : Int32).toUInt32 &&& Int32.toUInt32 31)).toInt32) &&& 1431655765)) &&& 858993459) + ((((v0 - (((v0.toUInt32 >>> ((1 : Int32).toUInt32 &&& Int32.toUInt32 31)).toInt32) &&& 1431655765)).toUInt32 >>> ((2 : Int32).toUInt32 &&& Int32.toUInt32 31)).toInt32) &&& 858993459) = w1
  replace H := H w1 e1.symm
  refine ev_iload_n (pc1 := 25) rfl (TBof tbs_68 _ rfl) rfl ?_
  refine ev_iload_n (pc1 := 26) rfl (TBof tbs_68 _ rfl) rfl ?_
  refine ev_iconst (pc1 := 27) (x := 4) (by decide) (TBof tbs_68 _ rfl) rfl ?_
  refine ev_iushr (pc1 := 28) (TBof tbs_68 _ rfl) rfl ?_
  refine ev_iadd (pc1 := 29) (TBof tbs_68 _ rfl) rfl ?_
  refine ev_ldc_w (pc1 := 32) (x := 252645135) rfl (TBof tbs_68 _ rfl) rfl ?_
  refine ev_iand (pc1 := 33) (TBof tbs_68 _ rfl) rfl ?_
  refine ev_istore_n (pc1 := 34) (L1 := [(0, .int ((w1 + ((w1.toUInt32 >>> ((4 : Int32).toUInt32 &&& Int32.toUInt32 31)).toInt32)) &&& 252645135))]) (by rw [ml_68]; decide) rfl (TBof tbs_68 _ rfl) rfl ?_
  refine ev_iload_n (pc1 := 35) rfl (TBof tbs_68 _ rfl) rfl ?_
  refine ev_iload_n (pc1 := 36) rfl (TBof tbs_68 _ rfl) rfl ?_
  refine ev_bipush (pc1 := 38) (x := 8) (by decide) (TBof tbs_68 _ rfl) rfl ?_
  refine ev_iushr (pc1 := 39) (TBof tbs_68 _ rfl) rfl ?_
  refine ev_iadd (pc1 := 40) (TBof tbs_68 _ rfl) rfl ?_
  refine ev_istore_n (pc1 := 41) (L1 := [(0, .int (((w1 + ((w1.toUInt32 >>> ((4 : Int32).toUInt32 &&& Int32.toUInt32 31)).toInt32)) &&& 252645135) + ((((w1 + ((w1.toUInt32 >>> ((4 : Int32).toUInt32 &&& Int32.toUInt32 31)).toInt32)) &&& 252645135).toUInt32 >>> ((8 : Int32).toUInt32 &&& Int32.toUInt32 31)).toInt32)))]) (by rw [ml_68]; decide) rfl (TBof tbs_68 _ rfl) rfl ?_
  generalize e2 : ((w1 + ((w1.toUInt32 >>> ((4 : Int32).toUInt32 &&& Int32.toUInt32 31)).toInt32)) &&& 252645135) + ((((w1 + ((w1.toUInt32 >>> ((4 : Int32).toUInt32 &&& Int32.toUInt32 31)).toInt32)) &&& 252645135).toUInt32 >>> ((8 : Int32).toUInt32 &&& Int32.toUInt32 31)).toInt32) = w2
  replace H := H w2 e2.symm
  refine ev_iload_n (pc1 := 42) rfl (TBof tbs_68 _ rfl) rfl ?_
  refine ev_iload_n (pc1 := 43) rfl (TBof tbs_68 _ rfl) rfl ?_
  refine ev_bipush (pc1 := 45) (x := 16) (by decide) (TBof tbs_68 _ rfl) rfl ?_
  refine ev_iushr (pc1 := 46) (TBof tbs_68 _ rfl) rfl ?_
  refine ev_iadd (pc1 := 47) (TBof tbs_68 _ rfl) rfl ?_
  refine ev_istore_n (pc1 := 48) (L1 := [(0, .int (w2 + ((w2.toUInt32 >>> ((16 : Int32).toUInt32 &&& Int32.toUInt32 31)).toInt32)))]) (by rw [ml_68]; decide) rfl (TBof tbs_68 _ rfl) rfl ?_
  refine ev_iload_n (pc1 := 49) rfl (TBof tbs_68 _ rfl) rfl ?_
  refine ev_bipush (pc1 := 51) (x := 63) (by decide) (TBof tbs_68 _ rfl) rfl ?_
  refine ev_iand (pc1 := 52) (TBof tbs_68 _ rfl) rfl ?_
  exact ev_ireturn (TBof tbs_68 _ rfl) (retI_i rt_68) ⟨_, rfl, H⟩

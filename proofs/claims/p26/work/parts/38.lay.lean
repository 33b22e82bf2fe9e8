/-! lay, on both sides -/
section LY
variable {d n : Nat} {M : Im} {h : Hm} {D : Dm} {A : Ab} {o t e : Int32} {Q : Int32 → Im → Hm → Dm → Prop}
theorem X_lay (hw : wf n A.1.1) (hI : IX M h A) (hQ : ∀ M1 h1, IX M1 h1 (opLay A t o e).2 → FrX M M1 → Q (opLay A t o e).1 M1 h1 D) : CI (d + 5) nX3_lay [.ref 0, .int t, .int o, .int e] M h D Q := by
  have hR := hI.1
  have s1 : St 1 := Or.inl rfl
  refine ci_of rfl rfl (R_X3_lay_0 (t_isThingP (fun c1 => ⟨fun z => absurd z b1, fun _ => ?_⟩) (fun c1 => ⟨fun _ => ?_, fun z => absurd rfl z⟩)))
  · obtain ⟨j, hj, rfl⟩ := isT_ex c1
    have k45 : (o = -5 ∨ isD A.1.1 o) → EvI (d + 4) nX3_lay 45 [(0, .ref 0), (1, .int (nI j)), (2, .int o), (3, .int e)] [.int (btm A.1.1 o)] M h D Q := by
      intro ho
      unfold opLay at hQ
      rw [if_pos ⟨c1, ho⟩, nI_clamp (by omega)] at hQ
      obtain ⟨e7, e8⟩ := hR.2.2.2.2.2.2.2.2 j hj
      refine R_X3_lay_45 ⟨fun c => ?_, fun c => ⟨fun c2 => ?_, fun c2 => ?_⟩⟩
      · rw [if_neg (fun z => absurd c (Int32.not_lt.mpr z.1))] at hQ; exact hQ M h hI (FrX.refl M)
      · rw [if_pos ⟨Int32.not_lt.mp c, c2⟩] at hQ
        rw [hR.2.1, nI_clamp (by omega), e7, e8]
        refine ⟨fun c3 => ?_, fun c3 => ?_⟩
        · rw [if_neg (by rw [c3]; decide)] at hQ
          have k102 : ¬ (ft A.1.1 j 0 = o ∧ ft A.1.1 j 1 = e) → EvI (d + 4) nX3_lay 102 [(0, .ref 0), (1, .int (nI j)), (2, .int o), (3, .int e), (4, .int (btm A.1.1 o))] [] M h D Q := by
            intro c4
            rw [if_neg c4] at hQ
            refine R_X3_lay_102 (tX_record hI hw.a1 (fun M1 h1 i1 f1 => ⟨kvp hj (by decide), kvp hj (by decide), ?_⟩))
            rw [nI_clamp (by omega)]
            have r1 : RS M1 1 A.1.1 A.1.2 := i1.1
            have r2 : RS (up2 (up2 M1 8 j o) 9 j e) 1 (layR A.1.1 j o e) A.1.2 := RS_T j 1 (by decide) hj (RS_T j 0 (by decide) hj r1)
            have f2 : FrS 1 M1 (up2 (up2 M1 8 j o) 9 j e) := ((FrS.refl 1 M1).up 7 _ _ (by decide)).up 8 _ _ (by decide)
            have hv : o = -5 ∨ ∃ k, k < n ∧ o = nI k := by
              rcases ho with z | z
              · exact Or.inl z
              · obtain ⟨k, hk, rfl⟩ := nI_of (Int32.not_lt.mpr z.1)
                have z2 : nI k < A.1.1 0 := z.2
                rw [hw.a0] at z2
                exact Or.inr ⟨k, (nI_ltI hk (by have := hw.n16; omega)).mp z2, rfl⟩
            have hth : thOk n (layR A.1.1 j o e) := fun t2 ht2 => by
              unfold layR
              rw [ft_T (by decide) (by decide), if_neg (by omega), ft_T (by decide) (by decide)]
              by_cases z : t2 = j ∧ 0 = 0
              · rw [if_pos z]; exact hv
              · rw [if_neg z]; exact hw.th t2 ht2
            refine tS_countLaid s1 r2 (by unfold layR; rw [hd_T (by decide), hd_T (by decide)]; exact hw.a0) hth hw.n16 ?_
            have i2 : IX (up2 (up2 M1 8 j o) 9 j e) h1 ((layR A.1.1 j o e, A.1.2), (recA A).2) := IX_now (r := (layR A.1.1 j o e, A.1.2)) i1 r2 f2
            exact hQ _ h1 i2 (f1.tr (FrX.of f2 s1))
          refine ⟨kvp hj (by decide), nn_if (fun c4 => k102 (fun z => c4 z.1)) (fun c4 => ⟨kvp hj (by decide), nn_if (fun c5 => k102 (fun z => c5 z.2)) (fun c5 => ?_)⟩)⟩
          rw [if_pos ⟨c4, c5⟩] at hQ; exact hQ M h hI (FrX.refl M)
        · rw [if_pos (hw.a1.resolve_left c3)] at hQ; exact hQ M h hI (FrX.refl M)
      · rw [if_neg (fun z => c2 z.2)] at hQ; exact hQ M h hI (FrX.refl M)
    refine ⟨fun c => ⟨fun z => absurd c z, fun _ => ?_⟩, fun c => t_isThere s1 (hR.1.trans hw.a0) hw.n16 (fun k hk ek => ⟨fun _ => ⟨fun _ => ?_, fun z => absurd c z⟩, fun z => absurd b1 z⟩) (fun c2 => ⟨fun z => absurd rfl z, fun _ => ?_⟩)⟩
    · have := k45 (Or.inl c)
      rw [show btm A.1.1 o = 0 from if_pos c] at this; exact this
    · have hk16 : k < 16 := by have := hw.n16; omega
      have := k45 (Or.inr (by rw [ek]; exact isD_of hw.a0 hw.n16 hk))
      rw [show btm A.1.1 o = M 6 o.toNatClampNeg by
        rw [show btm A.1.1 o = fd A.1.1 o.toNatClampNeg 4 from if_neg c, ek, kcl hk16]
        exact (hR.2.2.2.2.2.2.2.1 k hk16).2.2.2.2.1.symm] at this
      exact ⟨by rw [ek]; exact kvp hk16 (by decide), this⟩
    · unfold opLay at hQ
      rw [if_neg (fun z => z.2.elim c (isD_no hw.a0 hw.n16 c2))] at hQ; exact hQ M h hI (FrX.refl M)
  · unfold opLay at hQ
    rw [if_neg (fun z => c1 z.1)] at hQ; exact hQ M h hI (FrX.refl M)
end LY

/-! begin, giveUp, setBottoms, on both sides -/
def opBegin (A : Ab) : Int32 × Ab :=
  if A.1.1 1 = 1 then (-4, A) else if A.1.1 0 = 0 then (-4, A) else if lacks (nOf A.1.1) A.1.1 (nOf A.1.1) = true then (-4, A) else (A.1.1 0, ((updH (asl A.1.1) 1 1, 0), (recA A).2))
def opGiveUp (A : Ab) : Int32 × Ab := if A.1.1 1 = 1 then (A.1.1 2, ((updH (asl A.1.1) 1 0, 0), (recA A).2)) else (-4, A)
section BG
variable {d n : Nat} {M : Im} {h : Hm} {D : Dm} {A : Ab} {v b : Int32} {Q : Int32 → Im → Hm → Dm → Prop}
theorem X_begin (hw : wf n A.1.1) (hI : IX M h A) (hQ : ∀ M1 h1, IX M1 h1 (opBegin A).2 → FrX M M1 → Q (opBegin A).1 M1 h1 D) : CI (d + 5) nX3_begin [.ref 0] M h D Q := by
  have hR := hI.1
  have s1 : St 1 := Or.inl rfl
  unfold opBegin at hQ
  refine ci_of rfl rfl (R_X3_begin_0 ⟨fun c => ?_, fun c => ⟨fun c2 => ?_, fun c2 => ?_⟩⟩)
  · rw [hR.2.1] at c
    rw [if_pos (hw.a1.resolve_left c)] at hQ; exact hQ M h hI (FrX.refl M)
  · rw [hR.2.1] at c
    rw [hR.1] at c2
    rw [if_neg (by rw [Classical.not_not.mp c]; decide), if_pos c2] at hQ; exact hQ M h hI (FrX.refl M)
  · rw [hR.2.1] at c
    rw [hR.1] at c2
    rw [if_neg (by rw [Classical.not_not.mp c]; decide), if_neg c2, hw.nOf] at hQ
    refine tS_hasAll s1 hR hw.a0 hw.by' hw.n16 ?_
    cases hl : lacks n A.1.1 n
    · rw [hl, if_neg (by decide)] at hQ
      refine ⟨fun _ => tX_record hI hw.a1 (fun M1 h1 i1 f1 => tS_putBack s1 (show RS M1 1 A.1.1 A.1.2 from i1.1) (fun M2 r2 f2 => ?_)), fun z => absurd (by decide) z⟩
      have r3 := RS_H (x := 1) 1 (by decide) r2
      rw [updH_H] at r3
      have f3 : FrS 1 M2 (up2 M2 1 1 1) := (FrS.refl 1 M2).up0 _ _
      rw [show (up2 M2 1 1 1) 1 0 = A.1.1 0 from r3.1.trans (by rw [hd_H, if_neg (by decide), asl_hd (by decide), if_neg (by decide)])]
      exact hQ _ h1 (IX_now (r := (updH (asl A.1.1) 1 1, 0)) i1 r3 (f2.tr f3)) (f1.tr ((FrX.of f2 s1).tr (FrX.of f3 s1)))
    · rw [hl, if_pos rfl] at hQ
      exact ⟨fun z => absurd rfl z, fun _ => hQ M h hI (FrX.refl M)⟩
theorem X_giveUp (hw : wf n A.1.1) (hI : IX M h A) (hQ : ∀ M1 h1, IX M1 h1 (opGiveUp A).2 → FrX M M1 → Q (opGiveUp A).1 M1 h1 D) : CI (d + 5) nX3_giveUp [.ref 0] M h D Q := by
  have hR := hI.1
  have s1 : St 1 := Or.inl rfl
  unfold opGiveUp at hQ
  refine ci_of rfl rfl (R_X3_giveUp_0 ⟨fun c => ?_, fun c => ?_⟩)
  · rw [hR.2.1] at c
    rw [if_pos (hw.a1.resolve_left c)] at hQ
    refine tX_record hI hw.a1 (fun M1 h1 i1 f1 => tS_putBack s1 (show RS M1 1 A.1.1 A.1.2 from i1.1) (fun M2 r2 f2 => ?_))
    rw [hR.2.2.1]
    exact hQ _ h1 (IX_now (r := (updH (asl A.1.1) 1 0, 0)) i1 r2 f2) (f1.tr (FrX.of f2 s1))
  · rw [hR.2.1] at c
    rw [if_neg (by rw [Classical.not_not.mp c]; decide)] at hQ; exact hQ M h hI (FrX.refl M)
end BG

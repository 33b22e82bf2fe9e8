/-! take and seal, on both sides -/
abbrev isT (v : Int32) : Prop := 0 ≤ v ∧ v ≤ 11
theorem isT_of {t : Nat} (ht : t < 12) : isT (nI t) := ⟨nI_pos' (by omega), (nI_leI (b := 11) (by omega) (by decide)).mpr (by omega)⟩
theorem isT_no {v : Int32} (c : ¬ ∃ t, t < 12 ∧ v = nI t) : ¬ isT v := fun z => by
  obtain ⟨j, hj, rfl⟩ := nI_of (Int32.not_lt.mpr z.1)
  exact c ⟨j, by have := (nI_leI (b := 11) hj (by decide)).mp z.2; omega, rfl⟩
theorem isT_ex {v : Int32} (z : isT v) : ∃ t, t < 12 ∧ v = nI t := by
  obtain ⟨j, hj, rfl⟩ := nI_of (Int32.not_lt.mpr z.1)
  exact ⟨j, by have := (nI_leI (b := 11) hj (by decide)).mp z.2; omega, rfl⟩
def okTake (A : Ab) (t : Nat) : Int32 × Ab := (fsum (fun i => ft (updT A.1.1 t 2 1) i 2) 12, act A (updT A.1.1 t 2 1) 1)
def opTake (A : Ab) (v : Int32) : Int32 × Ab :=
  if isT v then if A.1.1 1 = 1 then if ft A.1.1 v.toNatClampNeg 2 = 1 then (-5, A) else if canT A.1.1 v.toNatClampNeg = true then okTake A v.toNatClampNeg else (-4, A) else (-4, A) else (-1, A)
def okSeal (A : Ab) (k : Nat) : Int32 × Ab := (fsum (fun i => fd (updF A.1.1 k 7 0) i 7) (nOf A.1.1), act A (updF A.1.1 k 7 0) 12)
def opSeal (A : Ab) (v : Int32) : Int32 × Ab :=
  if isD A.1.1 v then if A.1.1 1 = 1 then if fd A.1.1 v.toNatClampNeg 7 = 1 then if canS A.1.1 v.toNatClampNeg = true then okSeal A v.toNatClampNeg else (-4, A) else (-5, A) else (-4, A) else (-1, A)
section TK
variable {d n : Nat} {M : Im} {h : Hm} {D : Dm} {A : Ab} {v : Int32} {Q : Int32 → Im → Hm → Dm → Prop}
theorem t_isThing (k1 : ∀ t, t < 12 → v = nI t → Q 1 M h D) (k0 : (¬ ∃ t, t < 12 ∧ v = nI t) → Q 0 M h D) : CI (d + 1) nX3_isThing [.int v] M h D Q := by
  refine ci_of rfl rfl (R_X3_isThing_0 ⟨fun c => k0 ?_, fun c => ⟨fun c2 => k0 ?_, fun c2 => ?_⟩⟩)
  · rintro ⟨t, ht, rfl⟩; exact absurd c (nI_pos (by omega))
  · rintro ⟨t, ht, rfl⟩; exact absurd ((nI_leI (a := 12) (by decide) (by omega)).mp c2) (by omega)
  · obtain ⟨t, ht, e⟩ := isT_ex (v := v) ⟨Int32.not_lt.mp c, by
      obtain ⟨j, hj, rfl⟩ := nI_of c
      refine (nI_leI (b := 11) hj (by decide)).mpr ?_
      rcases Nat.lt_or_ge j 12 with z | z
      · omega
      · exact absurd ((nI_leI (a := 12) (by decide) hj).mpr z) c2⟩
    exact k1 t ht e
theorem X_take (hw : wf n A.1.1) (hI : IX M h A) (hQ : ∀ M1 h1, IX M1 h1 (opTake A v).2 → FrX M M1 → Q (opTake A v).1 M1 h1 D) : CI (d + 5) nX3_take [.ref 0, .int v] M h D Q := by
  have hR := hI.1
  have s1 : St 1 := Or.inl rfl
  refine ci_of rfl rfl (R_X3_take_0 (t_isThing (fun t ht e => ?_) (fun c => ?_)))
  · subst e
    unfold opTake at hQ
    rw [if_pos (isT_of ht), nI_clamp (by omega)] at hQ
    refine ⟨fun _ => ⟨fun c => ?_, fun c => ?_⟩, fun z => absurd b1 z⟩
    · rw [hR.2.1] at c
      have hg := hw.a1.resolve_left c
      rw [if_pos hg] at hQ
      refine t_isInHand s1 hR ht (b2i_if (fun e1 => ?_) (fun e1 => ?_))
      · rw [if_neg (by simpa using e1)] at hQ
        refine tS_canTake s1 hR hw.a0 hw.out hw.th hw.zo hw.n16 ht (b2i_ifn (fun e2 => ?_) (fun e2 => ?_))
        · rw [if_pos e2] at hQ
          refine tX_record hI hw.a1 (fun M1 h1 i1 f1 => t_bit ?_)
          have r1 : RS M1 1 A.1.1 A.1.2 := i1.1
          have r2 : RS (up2 M1 1 6 (M1 1 6 ||| (1 <<< (nI t &&& 31)))) 1 (updT A.1.1 t 2 1) A.1.2 := RS_hand t ht r1
          have f2 : FrS 1 M1 (up2 M1 1 6 (M1 1 6 ||| (1 <<< (nI t &&& 31)))) := (FrS.refl 1 M1).up0 _ _
          have hw2 : wf n (updT A.1.1 t 2 1) := wf_hand hw ht hg
          refine tS_addStep (w := 1) s1 r2 rfl (fun M3 r3 f3 => ?_)
          refine t_bitCount r3.2.2.2.2.2.2.1 (by decide) ?_
          have hw3 : wf n (stp (updT A.1.1 t 2 1)) := wf_step hw2 _
          have := hQ M3 h1 (IX_now (r := (stp (updT A.1.1 t 2 1), A.1.2 + 1)) i1 r3 (f2.tr f3)) (f1.tr ((FrX.of f2 s1).tr (FrX.of f3 s1)))
          rw [show fsum (fun i => b2i (ft (updH (updT A.1.1 t 2 1) 2 (updT A.1.1 t 2 1 2 + 1)) i 2 == 1)) 12 = (okTake A t).1 from fs_w (fun i hi => (b2i_01' (hw3.zo.2 i hi)).trans stp_ft)]
          exact this
        · rw [if_neg (by rw [e2]; decide)] at hQ; exact hQ M h hI (FrX.refl M)
      · rw [if_pos (by simpa using e1)] at hQ; exact hQ M h hI (FrX.refl M)
    · rw [hR.2.1] at c
      rw [if_neg (by rw [Classical.not_not.mp c]; decide)] at hQ; exact hQ M h hI (FrX.refl M)
  · refine ⟨fun z => absurd rfl z, fun _ => ?_⟩
    unfold opTake at hQ
    rw [if_neg (isT_no c)] at hQ; exact hQ M h hI (FrX.refl M)
theorem X_seal (hw : wf n A.1.1) (hI : IX M h A) (hQ : ∀ M1 h1, IX M1 h1 (opSeal A v).2 → FrX M M1 → Q (opSeal A v).1 M1 h1 D) : CI (d + 5) nX3_seal [.ref 0, .int v] M h D Q := by
  have hR := hI.1
  have s1 : St 1 := Or.inl rfl
  refine ci_of rfl rfl (R_X3_seal_0 (t_isThere s1 (hR.1.trans hw.a0) hw.n16 (fun k hk e => ?_) (fun c => ?_)))
  · have hk16 : k < 16 := by have := hw.n16; omega
    subst e
    unfold opSeal at hQ
    rw [if_pos (isD_of hw.a0 hw.n16 hk), kcl hk16] at hQ
    refine ⟨fun _ => ⟨fun c => ?_, fun c => ?_⟩, fun z => absurd b1 z⟩
    · rw [hR.2.1] at c
      have hg := hw.a1.resolve_left c
      rw [if_pos hg] at hQ
      refine t_isIn hR.2.2.2.2.2.1 hk16 (by decide) (b2i_ifn (fun e1 => ?_) (fun e1 => ?_))
      · rw [if_pos (by simpa using e1)] at hQ
        refine tS_canSeal s1 hR hw.a0 hw.out hw.zo hw.n16 hk (b2i_ifn (fun e2 => ?_) (fun e2 => ?_))
        · rw [if_pos e2] at hQ
          refine tX_record hI hw.a1 (fun M1 h1 i1 f1 => t_bit ?_)
          have r1 : RS M1 1 A.1.1 A.1.2 := i1.1
          have r2 : RS (up2 M1 1 5 (M1 1 5 &&& ((1 <<< (nI k &&& 31)) ^^^ (-1)))) 1 (updF A.1.1 k 7 0) A.1.2 := RS_set k 5 hk16 (Or.inr rfl) false _ (bs_del r1.2.2.2.2.2.1 hk16 (by decide)) r1
          have hw2 : wf n (updF A.1.1 k 7 0) := wf_upF hw 7 0 hk hg (by decide) (by decide) (fun e => absurd e (by decide)) (fun e => absurd e (by decide)) (fun _ => Or.inl rfl)
          have f2 : FrS 1 M1 (up2 M1 1 5 (M1 1 5 &&& ((1 <<< (nI k &&& 31)) ^^^ (-1)))) := (FrS.refl 1 M1).up0 _ _
          refine tS_addStep (w := 12) s1 r2 rfl (fun M3 r3 f3 => ?_)
          refine t_bitCount r3.2.2.2.2.2.1 (by decide) ?_
          have hw3 : wf n (stp (updF A.1.1 k 7 0)) := wf_step hw2 _
          have hr := cnt_d (a := stp (updF A.1.1 k 7 0)) (j := 7) hw.n16 (fun k hk => (hw3.zo.1 k hk).2) (fun k h1 h2 => (hw3.zr k h1 h2).2.2.2)
          have := hQ M3 h1 (IX_now (r := (stp (updF A.1.1 k 7 0), A.1.2 + 12)) i1 r3 (f2.tr f3)) (f1.tr ((FrX.of f2 s1).tr (FrX.of f3 s1)))
          rw [show fsum (fun i => b2i (fd (updH (updF A.1.1 k 7 0) 2 (updF A.1.1 k 7 0 2 + 1)) i 7 == 1)) 16 = (okSeal A k).1 from hr.trans (by
            unfold okSeal; rw [hw.nOf]; exact fs_w (fun i _ => stp_fd))]
          exact this
        · rw [if_neg (by rw [e2]; decide)] at hQ; exact hQ M h hI (FrX.refl M)
      · rw [if_neg (by simpa using e1)] at hQ; exact hQ M h hI (FrX.refl M)
    · rw [hR.2.1] at c
      rw [if_neg (by rw [Classical.not_not.mp c]; decide)] at hQ; exact hQ M h hI (FrX.refl M)
  · refine ⟨fun z => absurd rfl z, fun _ => ?_⟩
    unfold opSeal at hQ
    rw [if_neg (isD_no hw.a0 hw.n16 c)] at hQ; exact hQ M h hI (FrX.refl M)
end TK

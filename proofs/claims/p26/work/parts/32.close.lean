/-! close and lift, on both sides -/
def okClose (A : Ab) (k : Nat) : Int32 × Ab := (fsum (fun i => fd (updF A.1.1 k 6 0) i 6) (nOf A.1.1), act A (updF A.1.1 k 6 0) (4 + (fd A.1.1 k 3).toNatClampNeg))
def opClose (A : Ab) (v : Int32) : Int32 × Ab :=
  if isD A.1.1 v then if A.1.1 1 = 1 then if fd A.1.1 v.toNatClampNeg 6 = 1 then if rchd A.1.1 v.toNatClampNeg = true then okClose A v.toNatClampNeg else (-4, A) else (-5, A) else (-4, A) else (-1, A)
def okLift (A : Ab) (k : Nat) : Int32 × Ab := (fd A.1.1 k 5 + 1, act A (updF A.1.1 k 5 (fd A.1.1 k 5 + 1)) 10)
def opLift (A : Ab) (v : Int32) : Int32 × Ab :=
  if isD A.1.1 v then if A.1.1 1 = 1 then if fd A.1.1 v.toNatClampNeg 5 < fd A.1.1 v.toNatClampNeg 4 then if canL A.1.1 v.toNatClampNeg = true then okLift A v.toNatClampNeg else (-4, A) else (-5, A) else (-4, A) else (-1, A)
section CL
variable {d n : Nat} {M : Im} {h : Hm} {D : Dm} {A : Ab} {v : Int32} {Q : Int32 → Im → Hm → Dm → Prop}
theorem X_close (hw : wf n A.1.1) (hI : IX M h A) (hQ : ∀ M1 h1, IX M1 h1 (opClose A v).2 → FrX M M1 → Q (opClose A v).1 M1 h1 D) : CI (d + 5) nX3_close [.ref 0, .int v] M h D Q := by
  have hR := hI.1
  have s1 : St 1 := Or.inl rfl
  refine ci_of rfl rfl (R_X3_close_0 (t_isThere s1 (hR.1.trans hw.a0) hw.n16 (fun k hk e => ?_) (fun c => ?_)))
  · have hk16 : k < 16 := by have := hw.n16; omega
    subst e
    unfold opClose at hQ
    rw [if_pos (isD_of hw.a0 hw.n16 hk), kcl hk16] at hQ
    refine ⟨fun _ => ⟨fun c => ?_, fun c => ?_⟩, fun z => absurd b1 z⟩
    · rw [hR.2.1] at c
      have hg := hw.a1.resolve_left c
      rw [if_pos hg] at hQ
      refine t_isOpen s1 hR hk16 (b2i_ifn (fun e1 => ?_) (fun e1 => ?_))
      · rw [if_pos (by simpa using e1)] at hQ
        refine tS_isReached s1 hR hw.a0 hw.out hw.n16 hk (b2i_ifn (fun e2 => ?_) (fun e2 => ?_))
        · rw [if_pos e2] at hQ
          refine tX_record hI hw.a1 (fun M1 h1 i1 f1 => t_bit ⟨kvp hk16 (by decide), ?_⟩)
          have r1 : RS M1 1 A.1.1 A.1.2 := i1.1
          have r2 : RS (up2 M1 1 4 (M1 1 4 &&& ((1 <<< (nI k &&& 31)) ^^^ (-1)))) 1 (updF A.1.1 k 6 0) A.1.2 := RS_set k 4 hk16 (Or.inl rfl) false _ (bs_del r1.2.2.2.2.1 hk16 (by decide)) r1
          have hw2 : wf n (updF A.1.1 k 6 0) := wf_upF hw 6 0 hk hg (by decide) (by decide) (fun e => absurd e (by decide)) (fun _ => Or.inl rfl) (fun e => absurd e (by decide))
          obtain ⟨s, hs, es⟩ := (hw.dr k hk).1
          have e5 : (up2 M1 1 4 (M1 1 4 &&& ((1 <<< (nI k &&& 31)) ^^^ (-1)))) 5 k = nI s := (r2.2.2.2.2.2.2.2.1 k hk16).2.2.2.1.trans ((fd_F_ne (by omega) (by decide) (by decide)).trans es)
          rw [kcl hk16, e5]
          refine tS_addStep (w := 4 + s) s1 r2 (nI_add 4 s) (fun M3 r3 f3 => ?_)
          refine t_bitCount r3.2.2.2.2.1 (by decide) ?_
          have hw3 : wf n (stp (updF A.1.1 k 6 0)) := wf_step hw2 _
          have hr := cnt_d (a := stp (updF A.1.1 k 6 0)) (j := 6) hw.n16 (fun k hk => (hw3.zo.1 k hk).1) (fun k h1 h2 => (hw3.zr k h1 h2).2.2.1)
          have f2 : FrS 1 M1 (up2 M1 1 4 (M1 1 4 &&& ((1 <<< (nI k &&& 31)) ^^^ (-1)))) := (FrS.refl 1 M1).up0 _ _
          have := hQ M3 h1 (by
            unfold okClose act
            rw [nI_s hs es]
            exact IX_now (r := (stp (updF A.1.1 k 6 0), A.1.2 + (4 + s))) i1 r3 (f2.tr f3)) (f1.tr ((FrX.of f2 s1).tr (FrX.of f3 s1)))
          rw [show fsum (fun i => b2i (fd (updH (updF A.1.1 k 6 0) 2 (updF A.1.1 k 6 0 2 + 1)) i 6 == 1)) 16 = (okClose A k).1 from hr.trans (by
            unfold okClose; rw [hw.nOf]; exact fs_w (fun i _ => stp_fd))]
          exact this
        · rw [if_neg (by rw [e2]; decide)] at hQ; exact hQ M h hI (FrX.refl M)
      · rw [if_neg (by simpa using e1)] at hQ; exact hQ M h hI (FrX.refl M)
    · rw [hR.2.1] at c
      rw [if_neg (by rw [Classical.not_not.mp c]; decide)] at hQ; exact hQ M h hI (FrX.refl M)
  · refine ⟨fun z => absurd rfl z, fun _ => ?_⟩
    unfold opClose at hQ
    rw [if_neg (isD_no hw.a0 hw.n16 c)] at hQ; exact hQ M h hI (FrX.refl M)
theorem lift_x (hw : wf n A.1.1) {k : Nat} (hk : k < n) (hg : A.1.1 1 = 1) (hl : fd A.1.1 k 5 < fd A.1.1 k 4) : wf n (updF A.1.1 k 5 (fd A.1.1 k 5 + 1)) := by
  refine wf_upF hw 5 _ hk hg (by decide) (by decide) (fun _ b hb => ?_) (fun e => absurd e (by decide)) (fun e => absurd e (by decide))
  obtain ⟨b2, l, q1, q2, q3, q4⟩ := hw.lift' hk
  rw [q3, q4] at hl
  rw [q4, nI_1]
  have h1 := (nI_ltI (by omega) (by omega)).mp hl
  by_cases hb31 : b < 2 ^ 31
  · have := nI_inj' hb31 (by omega) (hb.symm.trans q3)
    exact ⟨l + 1, by omega, rfl⟩
  · exact ⟨l + 1, by omega, rfl⟩
theorem X_lift (hw : wf n A.1.1) (hI : IX M h A) (hQ : ∀ M1 h1, IX M1 h1 (opLift A v).2 → FrX M M1 → Q (opLift A v).1 M1 h1 D) : CI (d + 5) nX3_lift [.ref 0, .int v] M h D Q := by
  have hR := hI.1
  have s1 : St 1 := Or.inl rfl
  refine ci_of rfl rfl (R_X3_lift_0 (t_isThere s1 (hR.1.trans hw.a0) hw.n16 (fun k hk e => ?_) (fun c => ?_)))
  · have hk16 : k < 16 := by have := hw.n16; omega
    subst e
    unfold opLift at hQ
    rw [if_pos (isD_of hw.a0 hw.n16 hk), kcl hk16] at hQ
    refine ⟨fun _ => ⟨fun c => ?_, fun c => ?_⟩, fun z => absurd b1 z⟩
    · rw [hR.2.1] at c
      have hg := hw.a1.resolve_left c
      rw [if_pos hg] at hQ
      refine t_hasBottomLeft s1 hR hk16 (b2i_ifn (fun e1 => ?_) (fun e1 => ?_))
      · rw [if_pos (of_decide_eq_true e1)] at hQ
        refine tS_canLift s1 hR hw.a0 hw.out hw.n16 hk (b2i_ifn (fun e2 => ?_) (fun e2 => ?_))
        · rw [if_pos e2] at hQ
          refine tX_record hI hw.a1 (fun M1 h1 i1 f1 => ⟨kvp hk16 (by decide), kvp hk16 (by decide), ?_⟩)
          have r1 : RS M1 1 A.1.1 A.1.2 := i1.1
          have e7 : M1 7 k = fd A.1.1 k 5 := (r1.2.2.2.2.2.2.2.1 k hk16).2.2.2.2.2
          rw [kcl hk16, e7]
          have r2 : RS (up2 M1 7 k (fd A.1.1 k 5 + 1)) 1 (updF A.1.1 k 5 (fd A.1.1 k 5 + 1)) A.1.2 := RS_F k 5 (by decide) hk16 r1
          have f2 : FrS 1 M1 (up2 M1 7 k (fd A.1.1 k 5 + 1)) := (FrS.refl 1 M1).up 6 _ _ (by decide)
          refine tS_addStep (w := 10) s1 r2 rfl (fun M3 r3 f3 => ⟨kvp hk16 (by decide), ?_⟩)
          have e8 : M3 7 k = fd A.1.1 k 5 + 1 := (r3.2.2.2.2.2.2.2.1 k hk16).2.2.2.2.2.trans (by rw [fd_H (by decide), fd_F (by decide) (by decide), if_pos ⟨rfl, rfl⟩])
          rw [e8]
          exact hQ M3 h1 (IX_now (r := (stp (updF A.1.1 k 5 (fd A.1.1 k 5 + 1)), A.1.2 + 10)) i1 r3 (f2.tr f3)) (f1.tr ((FrX.of f2 s1).tr (FrX.of f3 s1)))
        · rw [if_neg (by rw [e2]; decide)] at hQ; exact hQ M h hI (FrX.refl M)
      · rw [if_neg (of_decide_eq_false e1)] at hQ; exact hQ M h hI (FrX.refl M)
    · rw [hR.2.1] at c
      rw [if_neg (by rw [Classical.not_not.mp c]; decide)] at hQ; exact hQ M h hI (FrX.refl M)
  · refine ⟨fun z => absurd rfl z, fun _ => ?_⟩
    unfold opLift at hQ
    rw [if_neg (isD_no hw.a0 hw.n16 c)] at hQ; exact hQ M h hI (FrX.refl M)
end CL

/-! open, on both sides -/
abbrev isD (a : V) (v : Int32) : Prop := 0 ≤ v ∧ v < a 0
theorem isD_of {n k : Nat} {a : V} (h : a 0 = nI n) (hn : n ≤ 16) (hk : k < n) : isD a (nI k) := ⟨nI_pos' (by omega), by rw [h]; exact (nI_ltI (by omega) (by omega)).mpr hk⟩
theorem isD_no {n : Nat} {a : V} {v : Int32} (h : a 0 = nI n) (hn : n ≤ 16) (c : ¬ ∃ k, k < n ∧ v = nI k) : ¬ isD a v := fun z => by
  obtain ⟨j, hj, rfl⟩ := nI_of (Int32.not_lt.mpr z.1)
  have z2 : nI j < a 0 := z.2
  rw [h] at z2
  exact c ⟨j, (nI_ltI hj (by omega)).mp z2, rfl⟩
def nOf (a : V) : Nat := (a 0).toNatClampNeg
theorem wf.nOf {n : Nat} {a : V} (h : wf n a) : nOf a = n := by show (a 0).toNatClampNeg = n; rw [h.a0, nI_clamp (by have := h.n16; omega)]
def stp (a : V) : V := updH a 2 (a 2 + 1)
def act (A : Ab) (a' : V) (w : Nat) : Ab := ((stp a', A.1.2 + w), (recA A).2)
theorem stp_fd {a : V} {k j : Nat} : fd (stp a) k j = fd a k j := fd_H (by decide)
theorem stp_ft {a : V} {t j : Nat} : ft (stp a) t j = ft a t j := ft_H (by decide)
theorem nI_s {s : Nat} (h : s < 10) {x : Int32} (e : x = nI s) : x.toNatClampNeg = s := by rw [e, nI_clamp (by omega)]
theorem b2i_01' {x : Int32} (h : x = 0 ∨ x = 1) : b2i (x == 1) = x := by rcases h with rfl | rfl <;> rfl
/-- how many drawers have a mark -/
theorem cnt_d {n j : Nat} {a : V} (hn : n ≤ 16) (hz : ∀ k, k < 16 → fd a k j = 0 ∨ fd a k j = 1) (hr : ∀ k, n ≤ k → k < 16 → fd a k j = 0) : fsum (fun i => b2i (fd a i j == 1)) 16 = fsum (fun i => fd a i j) n := by
  rw [fs_w (g := fun i => fd a i j) (fun i hi => b2i_01' (hz i hi))]
  have := fs_hi (f := fun i => fd a i j) (m := n) (16 - n) (fun i h1 h2 => hr i h1 (by omega))
  rw [show n + (16 - n) = 16 by omega] at this
  exact this
def okOpen (A : Ab) (k : Nat) : Int32 × Ab := (fsum (fun i => fd (opn A.1.1 k) i 6) (nOf A.1.1), act A (opn A.1.1 k) (4 + (fd A.1.1 k 3).toNatClampNeg))
def opOpen (A : Ab) (v : Int32) : Int32 × Ab :=
  if isD A.1.1 v then if A.1.1 1 = 1 then if fd A.1.1 v.toNatClampNeg 6 = 1 then (-5, A) else if canO A.1.1 v.toNatClampNeg = true then okOpen A v.toNatClampNeg else (-4, A) else (-4, A) else (-1, A)
theorem b1 : ¬ ((1 : Int32) = 0) := by decide
section OP
variable {d n : Nat} {M : Im} {h : Hm} {D : Dm} {A : Ab} {v : Int32} {Q : Int32 → Im → Hm → Dm → Prop}
theorem X_open (hw : wf n A.1.1) (hI : IX M h A) (hQ : ∀ M1 h1, IX M1 h1 (opOpen A v).2 → FrX M M1 → Q (opOpen A v).1 M1 h1 D) : CI (d + 5) nX3_open [.ref 0, .int v] M h D Q := by
  have hR := hI.1
  have s1 : St 1 := Or.inl rfl
  refine ci_of rfl rfl (R_X3_open_0 (t_isThere s1 (hR.1.trans hw.a0) hw.n16 (fun k hk e => ?_) (fun c => ?_)))
  · have hk16 : k < 16 := by have := hw.n16; omega
    subst e
    unfold opOpen at hQ
    rw [if_pos (isD_of hw.a0 hw.n16 hk), kcl hk16] at hQ
    refine ⟨fun _ => ⟨fun c => ?_, fun c => ?_⟩, fun z => absurd b1 z⟩
    · rw [hR.2.1] at c
      rw [if_pos (hw.a1.resolve_left c)] at hQ
      refine t_isOpen s1 hR hk16 (b2i_if (fun e1 => ?_) (fun e1 => ?_))
      · rw [if_neg (by simpa using e1)] at hQ
        refine tS_canOpen s1 hR hw.a0 hw.out hw.by' hw.zo hw.n16 hk (b2i_ifn (fun e2 => ?_) (fun e2 => ?_))
        · rw [if_pos e2] at hQ
          refine tX_record hI hw.a1 (fun M1 h1 i1 f1 => tS_setOpen s1 (show RS M1 1 A.1.1 A.1.2 from i1.1) hk16 (fun M2 r2 f2 => ⟨kvp hk16 (by decide), ?_⟩))
          have hw2 : wf n (opn A.1.1 k) := wf_opn hw hk (hw.a1.resolve_left c)
          obtain ⟨s, hs, es⟩ := (hw.dr k hk).1
          have e5 : M2 5 k = nI s := by
            have e6 : fd (opn A.1.1 k) k 3 = fd A.1.1 k 3 := by
              unfold opn; split
              · rw [fd_F_ne (by omega) (by decide) (by decide), fd_F_ne (by omega) (by decide) (by decide)]
              · rw [fd_F_ne (by omega) (by decide) (by decide)]
            exact (r2.2.2.2.2.2.2.2.1 k hk16).2.2.2.1.trans (e6.trans es)
          rw [kcl hk16, e5]
          refine tS_addStep (w := 4 + s) s1 r2 (nI_add 4 s) (fun M3 r3 f3 => ?_)
          refine t_bitCount r3.2.2.2.2.1 (by decide) ?_
          have hw3 : wf n (stp (opn A.1.1 k)) := wf_step hw2 _
          have hr := cnt_d (a := stp (opn A.1.1 k)) (j := 6) hw.n16 (fun k hk => (hw3.zo.1 k hk).1) (fun k h1 h2 => (hw3.zr k h1 h2).2.2.1)
          have := hQ M3 h1 (by
            unfold okOpen act
            rw [nI_s hs es]
            exact IX_now (r := (stp (opn A.1.1 k), A.1.2 + (4 + s))) i1 r3 (f2.tr f3)) (f1.tr ((FrX.of f2 s1).tr (FrX.of f3 s1)))
          rw [show fsum (fun i => b2i (fd (updH (opn A.1.1 k) 2 (opn A.1.1 k 2 + 1)) i 6 == 1)) 16 = (okOpen A k).1 from hr.trans (by
            unfold okOpen; rw [hw.nOf]; exact fs_w (fun i _ => stp_fd))]
          exact this
        · rw [if_neg (by rw [e2]; decide)] at hQ; exact hQ M h hI (FrX.refl M)
      · rw [if_pos (by simpa using e1)] at hQ; exact hQ M h hI (FrX.refl M)
    · rw [hR.2.1] at c
      rw [if_neg (by rw [Classical.not_not.mp c]; decide)] at hQ; exact hQ M h hI (FrX.refl M)
  · refine ⟨fun z => absurd rfl z, fun _ => ?_⟩
    unfold opOpen at hQ
    rw [if_neg (isD_no hw.a0 hw.n16 c)] at hQ; exact hQ M h hI (FrX.refl M)
end OP

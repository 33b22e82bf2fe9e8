/-! open, on both sides -/
abbrev isD (a : V) (v : Int32) : Prop := 0 ≤ v ∧ v < a 0
theorem isD_of {n k : Nat} {a : V} (h : a 0 = nI n) (hn : n ≤ 16) (hk : k < n) : isD a (nI k) := ⟨nI_pos' (by omega), by rw [h]; exact (nI_ltI (by omega) (by omega)).mpr hk⟩
theorem isD_no {n : Nat} {a : V} {v : Int32} (h : a 0 = nI n) (hn : n ≤ 16) (c : ¬ ∃ k, k < n ∧ v = nI k) : ¬ isD a v := fun z => by
  obtain ⟨j, hj, rfl⟩ := nI_of (Int32.not_lt.mpr z.1)
  have z2 : nI j < a 0 := z.2
  rw [h] at z2
  exact c ⟨j, (nI_ltI hj (by omega)).mp z2, rfl⟩
def nOf (a : V) : Nat := (a 0).toNatClampNeg
theorem wf.nOf {n : Nat} {a : V} (h : wf n a) : nOf a = n := by show (a 0).toNatClampNeg = n; rw [h.a0, nI_clamp (by have := h.n16; omega)]
def stp (a : V) : V := updH a 2 (a 2 + 1)
def act (A : Ab) (a' : V) (w : Nat) : Ab := ((stp a', A.1.2 + w), (recA A).2)
theorem stp_fd {a : V} {k j : Nat} : fd (stp a) k j = fd a k j := fd_H (by decide)
theorem stp_ft {a : V} {t j : Nat} : ft (stp a) t j = ft a t j := ft_H (by decide)
theorem nI_s {s : Nat} (h : s < 10) {x : Int32} (e : x = nI s) : x.toNatClampNeg = s := by rw [e, nI_clamp (by omega)]
theorem b2i_01' {x : Int32} (h : x = 0 ∨ x = 1) : b2i (x == 1) = x := by rcases h with rfl | rfl <;> rfl
/-- how many drawers have a mark -/
theorem cnt_d {n j : Nat} {a : V} (hn : n ≤ 16) (hz : ∀ k, k < 16 → fd a k j = 0 ∨ fd a k j = 1) (hr : ∀ k, n ≤ k → k < 16 → fd a k j = 0) : fsum (fun i => b2i (fd a i j == 1)) 16 = fsum (fun i => fd a i j) n := by
  rw [fs_w (g := fun i => fd a i j) (fun i hi => b2i_01' (hz i hi))]
  have := fs_hi (f := fun i => fd a i j) (m := n) (16 - n) (fun i h1 h2 => hr i h1 (by omega))
  rw [show n + (16 - n) = 16 by omega] at this
  exact this
def okOpen (A : Ab) (k : Nat) : Int32 × Ab := (fsum (fun i => fd (opn A.1.1 k) i 6) (nOf A.1.1), act A (opn A.1.1 k) (4 + (fd A.1.1 k 3).toNatClampNeg))
def opOpen (A : Ab) (v : Int32) : Int32 × Ab :=
  if isD A.1.1 v then if A.1.1 1 = 1 then if fd A.1.1 v.toNatClampNeg 6 = 1 then (-5, A) else if canO A.1.1 v.toNatClampNeg = true then okOpen A v.toNatClampNeg else (-4, A) else (-4, A) else (-1, A)
theorem b1 : ¬ ((1 : Int32) = 0) := by decide
section OP
variable {d n : Nat} {M : Im} {h : Hm} {D : Dm} {A : Ab} {v : Int32} {Q : Int32 → Im → Hm → Dm → Prop}
theorem X_open (hw : wf n A.1.1) (hI : IX M h A) (hQ : ∀ M1 h1, IX M1 h1 (opOpen A v).2 → FrX M M1 → Q (opOpen A v).1 M1 h1 D) : CI (d + 5) nX3_open [.ref 0, .int v] M h D Q := by
  have hR := hI.1
  have s1 : St 1 := Or.inl rfl
  refine ci_of rfl rfl (R_X3_open_0 (t_isThere s1 (hR.1.trans hw.a0) hw.n16 (fun k hk e => ?_) (fun c => ?_)))
  · have hk16 : k < 16 := by have := hw.n16; omega
    subst e
    unfold opOpen at hQ
    rw [if_pos (isD_of hw.a0 hw.n16 hk), kcl hk16] at hQ
    refine ⟨fun _ => ⟨fun c => ?_, fun c => ?_⟩, fun z => absurd b1 z⟩
    · rw [hR.2.1] at c
      rw [if_pos (hw.a1.resolve_left c)] at hQ
      refine t_isOpen s1 hR hk16 (b2i_if (fun e1 => ?_) (fun e1 => ?_))
      · rw [if_neg (by simpa using e1)] at hQ
        refine tS_canOpen s1 hR hw.a0 hw.out hw.by' hw.zo hw.n16 hk (b2i_ifn (fun e2 => ?_) (fun e2 => ?_))
        · rw [if_pos e2] at hQ
          refine tX_record hI hw.a1 (fun M1 h1 i1 f1 => tS_setOpen s1 (show RS M1 1 A.1.1 A.1.2 from i1.1) hk16 (fun M2 r2 f2 => ⟨kvp hk16 (by decide), ?_⟩))
          have hw2 : wf n (opn A.1.1 k) := wf_opn hw hk (hw.a1.resolve_left c)
          obtain ⟨s, hs, es⟩ := (hw.dr k hk).1
          have e5 : M2 5 k = nI s := by
            have e6 : fd (opn A.1.1 k) k 3 = fd A.1.1 k 3 := by
              unfold opn; split
              · rw [fd_F_ne (by omega) (by decide) (by decide), fd_F_ne (by omega) (by decide) (by decide)]
              · rw [fd_F_ne (by omega) (by decide) (by decide)]
            exact (r2.2.2.2.2.2.2.2.1 k hk16).2.2.2.1.trans (e6.trans es)
          rw [kcl hk16, e5]
          refine tS_addStep (w := 4 + s) s1 r2 (nI_add 4 s) (fun M3 r3 f3 => ?_)
          refine t_bitCount r3.2.2.2.2.1 (by decide) ?_
          have hw3 : wf n (stp (opn A.1.1 k)) := wf_step hw2 _
          have hr := cnt_d (a := stp (opn A.1.1 k)) (j := 6) hw.n16 (fun k hk => (hw3.zo.1 k hk).1) (fun k h1 h2 => (hw3.zr k h1 h2).2.2.1)
          have := hQ M3 h1 (by
            unfold okOpen act
            rw [nI_s hs es]
            exact IX_now (r := (stp (opn A.1.1 k), A.1.2 + (4 + s))) i1 r3 (f2.tr f3)) (f1.tr ((FrX.of f2 s1).tr (FrX.of f3 s1)))
          rw [show fsum (fun i => b2i (fd (updH (opn A.1.1 k) 2 (opn A.1.1 k 2 + 1)) i 6 == 1)) 16 = (okOpen A k).1 from hr.trans (by
            unfold okOpen; rw [hw.nOf]; exact fs_w (fun i _ => stp_fd))]
          exact this
        · rw [if_neg (by rw [e2]; decide)] at hQ; exact hQ M h hI (FrX.refl M)
      · rw [if_pos (by simpa using e1)] at hQ; exact hQ M h hI (FrX.refl M)
    · rw [hR.2.1] at c
      rw [if_neg (by rw [Classical.not_not.mp c]; decide)] at hQ; exact hQ M h hI (FrX.refl M)
  · refine ⟨fun z => absurd rfl z, fun _ => ?_⟩
    unfold opOpen at hQ
    rw [if_neg (isD_no hw.a0 hw.n16 c)] at hQ; exact hQ M h hI (FrX.refl M)
theorem M_open (hw : wf n A.1.1) (hI : IM M D A) (hp : A.2.1.1 ≤ 4) (hq : A.1.2 < 2 ^ 19) (hQ : ∀ M1 D1, IM M1 D1 (opOpen A v).2 → FrM M M1 → Q (opOpen A v).1 M1 h D1) : CI (d + 5) nX4_open [.ref 73, .int v] M h D Q := by
  obtain ⟨⟨a, q⟩, B⟩ := A
  have ha : M 74 = a := hI.1.1
  subst ha
  have hw : wf n (M 74) := hw
  have hD0 : D 77 0 = dq q := hI.1.2
  refine ci_of rfl rfl (R_X4_open_0 (t_isDrawer hw.a0 hw.n16 (fun k hk e => ?_) (fun c => ?_)))
  · have hk16 : k < 16 := by have := hw.n16; omega
    subst e
    unfold opOpen at hQ
    rw [if_pos (isD_of hw.a0 hw.n16 hk), kcl hk16] at hQ
    refine ⟨fun _ => t_isGame (fun hg => ⟨fun _ => t_d ⟨dvp hk16 (by decide), ?_⟩, fun z => absurd b1 z⟩) (fun hg => ⟨fun z => absurd rfl z, fun _ => ?_⟩), fun z => absurd b1 z⟩
    · rw [if_pos hg] at hQ
      rw [dcl hk16 (by decide)]
      refine ⟨fun c1 => ?_, fun c1 => ?_⟩
      · rw [if_neg c1] at hQ
        refine t_canOpen hw.out hw.by' hw.n16 hk (b2i_ifn (fun e2 => ?_) (fun e2 => ?_))
        · rw [if_pos e2] at hQ
          refine tM_recA hI hp (fun M1 D1 i1 k1 k2 k3 => t_d ⟨dvp hk16 (by decide), t_d (t_d ⟨dvp hk16 (by decide), ?_⟩)⟩)
          rw [dcl hk16 (by decide), dcl hk16 (by decide), dcl hk16 (by decide), row_F, k1]
          obtain ⟨s, hs, es⟩ := (hw.dr k hk).1
          have key : ∀ x : Int32, updF (updF (M 74) k 6 1) k 7 x = opn (M 74) k → CD (d + 4) nX4_turning [.ref 73, .int (nI k)] (up2 (up2 M1 74 (40 + 8 * k + 6) 1) 74 (40 + 8 * k + 7) x) h D1 (fun x14 M14 h14 D14 => CV (d + 4) nX4_step [.ref 73, .double x14] M14 h14 D14 (fun M15 h15 D15 => CI (d + 4) nX4_sumOf [.ref 73, .int 6] M15 h15 D15 (fun x16 M16 h16 D16 => Q x16 M16 h16 D16))) := by
            intro x hx
            have hrow : up2 (up2 M1 74 (40 + 8 * k + 6) 1) 74 (40 + 8 * k + 7) x 74 = opn (M 74) k := by rw [row_F, row_F, k1, hx]
            have hw2 : wf n (opn (M 74) k) := wf_opn hw hk hg
            have e6 : fd (opn (M 74) k) k 3 = nI s := by
              rw [← hx, fd_F_ne (by omega) (by decide) (by decide), fd_F_ne (by omega) (by decide) (by decide)]; exact es
            refine tM_turning hk16 (by rw [hrow]; exact e6) hs ?_
            refine tM_step (q := q) rfl (by omega) (by omega) hq (k2.trans hD0) ?_
            rw [hrow]
            have hrow2 : up2 (up2 (up2 M1 74 (40 + 8 * k + 6) 1) 74 (40 + 8 * k + 7) x) 74 2 (opn (M 74) k 2 + 1) 74 = stp (opn (M 74) k) := by rw [row_H, hrow]; rfl
            refine t_sumOf (j := 6) (n := n) ?_ hw.n16 (by decide) ?_
            · rw [hrow2]; exact (wf_step hw2 _).a0
            · rw [hrow2]
              have := hQ (up2 (up2 (up2 M1 74 (40 + 8 * k + 6) 1) 74 (40 + 8 * k + 7) x) 74 2 (opn (M 74) k 2 + 1)) (up2 D1 77 0 (dq (q + (4 + s)))) (by
                unfold okOpen act
                dsimp only
                rw [nI_s hs es]
                refine IM_now (r := (stp (opn (M 74) k), q + (4 + s))) i1 hrow2 (fun c hc => ?_) (by simp [up2]) (fun i hi => ?_)
                · rw [up2_ne _ _ _ hc, up2_ne _ _ _ hc, up2_ne _ _ _ hc]
                · unfold up2; rw [if_neg (by omega)]) (fun c hc => by
                rw [up2_ne _ _ _ (by omega), up2_ne _ _ _ (by omega), up2_ne _ _ _ (by omega)]; exact k3 c hc)
              rw [show fsum (fun i => fd (stp (opn (M 74) k)) i 6) n = (okOpen ((M 74, q), B) k).1 by
                unfold okOpen; dsimp only; rw [hw.nOf]; exact fs_w (fun i _ => stp_fd)]
              exact this
          have h1e : updF (M 74) k 6 1 (40 + 8 * k + 1) = fd (M 74) k 1 := fd_F_ne (k2 := k) (j2 := 1) (by omega) (by decide) (by decide)
          rw [h1e]
          refine ⟨fun c3 => ⟨dvp hk16 (by decide), ?_⟩, fun c3 => ⟨dvp hk16 (by decide), ?_⟩⟩
          · refine key 0 ?_
            have h7 : fd (M 74) k 7 = 0 := (hw.zo.1 k hk16).2.resolve_right (fun z => c3 ((hw.dr k hk).2.2 z))
            rw [updF_id (k := k) (j := 7) (by rw [fd_F_ne (by omega) (by decide) (by decide)]; exact h7)]
            unfold opn; rw [if_neg c3]
          · refine key 1 ?_
            unfold opn; rw [if_pos (Classical.not_not.mp c3)]
        · rw [if_neg (by rw [e2]; decide)] at hQ; exact hQ M D hI (FrM.refl M)
      · rw [if_pos (Classical.not_not.mp c1)] at hQ; exact hQ M D hI (FrM.refl M)
    · rw [if_neg hg] at hQ; exact hQ M D hI (FrM.refl M)
  · refine ⟨fun z => absurd rfl z, fun _ => ?_⟩
    unfold opOpen at hQ
    rw [if_neg (isD_no hw.a0 hw.n16 c)] at hQ; exact hQ M D hI (FrM.refl M)
end OP

/-! the law's acts: a drawer closed, sealed or opened, as its state lets it -/
section AC
variable {scr : Option (Nat × (Nat → Int32))} {e0 c n k v : Nat} {A A1 : Ab}
theorem fs_upd {f g : Nat → Int32} {k : Nat} : ∀ m, k < m → (∀ i, i < m → i ≠ k → f i = g i) → f k = g k + 1 → fsum f m = fsum g m + 1
  | 0, hk, _, _ => absurd hk (Nat.not_lt_zero _)
  | m + 1, hk, h, h1 => by
    show fsum f m + f m = fsum g m + g m + 1
    by_cases e : k = m
    · subst e
      rw [h1, fs_w (fun i hi => h i (by omega) (by omega)), Int32.add_assoc]
    · rw [fs_upd m (by omega) (fun i hi hne => h i (by omega) hne) h1, h m (by omega) (fun z => e z.symm), Int32.add_assoc, Int32.add_comm 1, ← Int32.add_assoc]
theorem op_close' (h : wf n A.1.1) (hg : A.1.1 1 = 1) (hk : k < n) : opClose A (nI k) = if fd A.1.1 k 6 = 1 then if rchd A.1.1 k = true then okClose A k else (-4, A) else (-5, A) := by
  have hn := h.n16
  unfold opClose
  rw [if_pos (isD_of h.a0 hn hk), if_pos hg, kcl (by omega)]
theorem op_seal' (h : wf n A.1.1) (hg : A.1.1 1 = 1) (hk : k < n) : opSeal A (nI k) = if fd A.1.1 k 7 = 1 then if canS A.1.1 k = true then okSeal A k else (-4, A) else (-5, A) := by
  have hn := h.n16
  unfold opSeal
  rw [if_pos (isD_of h.a0 hn hk), if_pos hg, kcl (by omega)]
theorem op_open' (h : wf n A.1.1) (hg : A.1.1 1 = 1) (hk : k < n) : opOpen A (nI k) = if fd A.1.1 k 6 = 1 then (-5, A) else if canO A.1.1 k = true then okOpen A k else (-4, A) := by
  have hn := h.n16
  unfold opOpen
  rw [if_pos (isD_of h.a0 hn hk), if_pos hg, kcl (by omega)]
theorem wf_clo (h : wf n A.1.1) (hg : A.1.1 1 = 1) (hk : k < n) : wf n (stp (updF A.1.1 k 6 0)) := wf_step (wf_upF h 6 0 hk hg (by decide) (by decide) (fun e => absurd e (by decide)) (fun _ => Or.inl rfl) (fun e => absurd e (by decide))) _
theorem wf_sea (h : wf n A.1.1) (hg : A.1.1 1 = 1) (hk : k < n) : wf n (stp (updF A.1.1 k 7 0)) := wf_step (wf_upF h 7 0 hk hg (by decide) (by decide) (fun e => absurd e (by decide)) (fun e => absurd e (by decide)) (fun _ => Or.inl rfl)) _
theorem nx_F {j : Nat} (h : wf n A.1.1) (hg : A.1.1 1 = 1) (hj : 5 ≤ j) (hj8 : j < 8) {x : Int32} {w : Nat} (hwf : wf n (stp (updF A.1.1 k j x))) : NX n A (act A (updF A.1.1 k j x) w) := by
  refine ⟨hwf, ?_, stk_same h hwf ⟨fun k2 j2 hk2 hj2 => ?_, fun t j2 ht hj2 => ?_⟩⟩
  · show stp (updF A.1.1 k j x) 1 = 1
    unfold stp; rw [hd_H, if_neg (by decide), hd_F (by decide), hg]
  · show fd (stp (updF A.1.1 k j x)) k2 j2 = _
    rw [stp_fd, fd_F_ne (by omega) hj8 (by omega)]
  · show ft (stp (updF A.1.1 k j x)) t j2 = _
    rw [stp_ft, ft_F ht (by omega)]
theorem nx_refl (h : wf n A.1.1) (hg : A.1.1 1 = 1) : NX n A A := ⟨h, hg, rfl⟩
/-- behind an opening -/
theorem H_244 {v1 v3 v4 v5 v6 x s1 : Int32} (hc : c ≤ 400) (hw : wfA c A1) (h1 : wf n A1.1.1) (hk : k < n) (hx : x = s1) (hs : ¬ x < 0 → fd A1.1.1 k 1 = 3 → fd A1.1.1 k 7 = 1) {Q : Int32 → Ab → Prop} (hQ : Q 1 A1) : EA scr (e0 + 8) nL_acts 244 [(0, .ref 0), (1, .int v1), (2, .int (nI k)), (3, .int v3), (4, .int v4), (5, .int v5), (6, .int v6), (7, .int x)] [.int s1, .int x] A1 Q := by
  refine R_L_acts_244 hc hw ?_
  rw [drw1 h1 hk, drw7 h1 hk]
  exact ⟨fun y => absurd hx y, fun _ => ⟨fun _ => hQ, fun c1 => ⟨fun _ => hQ, fun c2 => ⟨fun c3 => absurd (hs c1 (Classical.not_not.mp c2)) c3, fun _ => hQ⟩⟩⟩⟩
theorem K_50 {r o : Int32} (hc : c ≤ 399) (hw : wfA c A) (h : wf n A.1.1) (hg : A.1.1 1 = 1) (hk : k < n) (hv : v < 2 ^ 31) (hr : r = b2i (rchd A.1.1 k)) (ho : o = fd A.1.1 k 6) : EA scr (e0 + 8) nL_acts 50 [(0, .ref 0), (1, .int (nI v)), (2, .int (nI k)), (3, .int (fsum (fun i => fd A.1.1 i 6) n)), (4, .int r)] [.int o] A (fun x A1 => x = 1 ∧ wfA (c + 1) A1 ∧ NX n A A1) := by
  have hn := h.n16
  have hrf := nx_refl h hg
  refine R_L_acts_50 (by omega) hw ?_
  rw [h.nOf, cnt8 hg, cnt4, drw7 h hk, show (3 : Int32) = nI 3 from rfl, nI_rem hv (by decide) (by decide), bit1_set (bs_bits (canO A.1.1) (by omega)) (by omega), decide_eq_true hk, Bool.true_and]
  refine ⟨by decide, fun c1 => ⟨by decide, fun c2 => ?_, fun c2 => ?_⟩, fun c1 => fun x8 A8 q8 => ?_⟩
  · have key : ∀ b : Int32, b = b2i (canO A.1.1 k) → EA scr (e0 + 8) nL_acts 210 [(0, .ref 0), (1, .int (nI v)), (2, .int (nI k)), (3, .int (fsum (fun i => fd A.1.1 i 6) n)), (4, .int r), (5, .int o)] [.int b] A (fun x A1 => x = 1 ∧ wfA (c + 1) A1 ∧ NX n A A1) := fun b hb => by
      refine R_L_acts_210 (by omega) hw (fun x1 A1 q1 => ?_)
      have hw1 : wfA (c + 1) A1 := by have := K_open (v := nI k) hw; rw [q1] at this; exact this
      rw [op_open' h hg hk] at q1
      by_cases z6 : fd A.1.1 k 6 = 1
      · rw [if_pos z6] at q1
        obtain ⟨rfl, rfl⟩ := Prod.mk.inj q1
        rw [ho, z6]
        exact ⟨fun y => absurd y one_ne0, fun _ => H_244 (by omega) hw1 h hk rfl (fun y => absurd (by decide) y) ⟨rfl, hw1, hrf⟩⟩
      · rw [if_neg z6] at q1
        have z0 : fd A.1.1 k 6 = 0 := (h.zo.1 k (by omega)).1.resolve_right z6
        rw [ho, z0]
        by_cases zc : canO A.1.1 k = true
        · rw [if_pos zc] at q1
          obtain ⟨rfl, rfl⟩ := Prod.mk.inj q1
          have hwf : wf n (stp (opn A.1.1 k)) := wf_step (wf_opn h hk hg) _
          have hnx : NX n A (act A (opn A.1.1 k) (4 + (fd A.1.1 k 3).toNatClampNeg)) := by
            refine ⟨hwf, ?_, stk_same h hwf (made_O h hk).1⟩
            show stp (opn A.1.1 k) 1 = 1
            unfold stp; rw [hd_H, if_neg (by decide), opn_hd (by decide), hg]
          rw [hb, zc]
          refine ⟨fun _ => ⟨fun y => absurd y one_ne0, fun _ => H_244 (by omega) hw1 hwf hk ?_ (fun _ y => ?_) ⟨rfl, hw1, hnx⟩⟩, fun y => absurd rfl y⟩
          · rw [h.nOf]
            refine fs_upd n hk (fun i hi hne => ?_) ?_
            · rw [opn_6, if_neg hne]
            · rw [opn_6, if_pos rfl, z0]; rfl
          · have y : fd (stp (opn A.1.1 k)) k 1 = 3 := y
            show fd (stp (opn A.1.1 k)) k 7 = 1
            rw [stp_fd, opn_fd (by decide) (by decide) (by decide)] at y
            rw [stp_fd]
            unfold opn
            rw [if_pos y, fd_F (by decide) (by decide), if_pos ⟨rfl, rfl⟩]
        · rw [if_neg zc] at q1
          obtain ⟨rfl, rfl⟩ := Prod.mk.inj q1
          have zc' : canO A.1.1 k = false := by simpa using zc
          rw [hb, zc']
          exact ⟨fun _ => ⟨fun _ => H_244 (by omega) hw1 h hk rfl (fun y => absurd (by decide) y) ⟨rfl, hw1, hrf⟩, fun y => absurd rfl y⟩, fun y => absurd rfl y⟩
    refine ⟨fun y => key 0 ?_, fun y => key 1 ?_⟩
    · rw [b2i_ne1 y]; rfl
    · exact (Classical.not_not.mp y).symm
  · have key : ∀ b : Int32, b = fd A.1.1 k 7 → EA scr (e0 + 8) nL_acts 129 [(0, .ref 0), (1, .int (nI v)), (2, .int (nI k)), (3, .int (fsum (fun i => fd A.1.1 i 6) n)), (4, .int r), (5, .int o), (6, .int (fsum (fun i => fd A.1.1 i 7) n))] [.int b] A (fun x A1 => x = 1 ∧ wfA (c + 1) A1 ∧ NX n A A1) := fun b hb => by
      refine R_L_acts_129 (by omega) hw (fun x1 A1 q1 => ?_)
      have hw1 : wfA (c + 1) A1 := by have := K_seal (v := nI k) hw; rw [q1] at this; exact this
      rw [op_seal' h hg hk] at q1
      by_cases z7 : fd A.1.1 k 7 = 1
      · rw [if_pos z7] at q1
        rw [hb, z7]
        refine ⟨fun _ => ?_, fun y => absurd one_ne0 y⟩
        have no : canS A.1.1 k = false → (x1 = -4 ∧ A1 = A) := fun z => by
          rw [if_neg (by rw [z]; decide)] at q1
          obtain ⟨q2, q3⟩ := Prod.mk.inj q1
          exact ⟨q2.symm, q3.symm⟩
        refine ⟨fun c3 => ?_, fun c3 => ⟨fun c4 => ?_, fun c4 => ?_⟩⟩
        · have z0 : canS A.1.1 k = false := by
            have : fd A.1.1 k 6 = 1 := (h.zo.1 k (by omega)).1.resolve_left (fun y => c3 (ho.trans y))
            unfold canS; rw [this, z7]; rfl
          obtain ⟨rfl, rfl⟩ := no z0
          exact ⟨fun y => absurd rfl y, fun _ => ⟨rfl, hw1, hrf⟩⟩
        · have z0 : canS A.1.1 k = false := by
            rw [hr] at c4
            unfold canS; rw [b2i_eq0 c4, Bool.false_and, Bool.and_false, Bool.and_false]
          obtain ⟨rfl, rfl⟩ := no z0
          exact ⟨fun y => absurd rfl y, fun _ => ⟨rfl, hw1, hrf⟩⟩
        · have z6 : fd A.1.1 k 6 = 0 := ho.symm.trans (Classical.not_not.mp c3)
          rw [hr] at c4
          have zr := b2i_ne0 c4
          have eS : canS A.1.1 k = (ft A.1.1 11 2 == 1) := by unfold canS; rw [z7, z6, zr]; rfl
          by_cases z11 : ft A.1.1 11 2 = 1
          · rw [if_pos (by rw [eS, z11]; rfl)] at q1
            obtain ⟨rfl, rfl⟩ := Prod.mk.inj q1
            have hwf := wf_sea (k := k) h hg hk
            have e1 : nOf (act A (updF A.1.1 k 7 0) 12).1.1 = n := hwf.nOf
            have e2 : (opCount n (act A (updF A.1.1 k 7 0) 12) 3 >>> ((11 : Int32) &&& 31)) &&& 1 = 1 := by
              rw [cnt3, show (11 : Int32) = nI 11 from rfl, bitT (by decide)]
              show b2i (ft (stp (updF A.1.1 k 7 0)) 11 2 == 1) = 1
              rw [stp_ft, ft_F (by decide) (by decide), z11]; rfl
            rw [e1, e2]
            refine ⟨fun _ => ⟨fun y => absurd ?_ y, fun _ => ⟨rfl, hw1, nx_F h hg (by decide) (by decide) hwf⟩⟩, fun y => absurd one_ne0 y⟩
            rw [h.nOf]
            have := fs_upd (f := fun i => fd A.1.1 i 7) (g := fun i => fd (updF A.1.1 k 7 0) i 7) n hk (fun i hi hne => by rw [fd_F_ne (by omega) (by decide) (by decide)]) (by rw [fd_F (by decide) (by decide), if_pos ⟨rfl, rfl⟩, z7]; rfl)
            rw [this, Int32.add_sub_cancel]
          · have z12 : ft A.1.1 11 2 = 0 := (h.zo.2 11 (by decide)).resolve_right z11
            obtain ⟨rfl, rfl⟩ := no (by rw [eS, z12]; rfl)
            rw [h.nOf, cnt3, show (11 : Int32) = nI 11 from rfl, bitT (by decide), z12]
            exact ⟨fun y => absurd rfl y, fun _ => ⟨fun y => absurd rfl y, fun _ => ⟨rfl, hw1, hrf⟩⟩⟩
      · rw [if_neg z7] at q1
        obtain ⟨rfl, rfl⟩ := Prod.mk.inj q1
        rw [hb, (h.zo.1 k (by omega)).2.resolve_right z7]
        exact ⟨fun y => absurd rfl y, fun _ => ⟨fun y => absurd rfl y, fun _ => ⟨rfl, hw1, hrf⟩⟩⟩
    refine ⟨fun y => key 0 ?_, fun y => key 1 ?_⟩
    · exact ((h.zo.1 k (by omega)).2.resolve_right y).symm
    · exact (Classical.not_not.mp y).symm
  · have hw1 : wfA (c + 1) A8 := by have := K_close (v := nI k) hw; rw [q8] at this; exact this
    rw [op_close' h hg hk] at q8
    by_cases z6 : fd A.1.1 k 6 = 1
    · rw [if_pos z6] at q8
      rw [ho, z6]
      refine ⟨fun _ => ⟨fun c4 => ?_, fun c4 => ?_⟩, fun y => absurd one_ne0 y⟩
      · rw [hr] at c4
        rw [if_pos (b2i_ne0 c4)] at q8
        obtain ⟨rfl, rfl⟩ := Prod.mk.inj q8
        refine ⟨fun y => absurd ?_ y, fun _ => ⟨rfl, hw1, nx_F h hg (by decide) (by decide) (wf_clo h hg hk)⟩⟩
        rw [h.nOf]
        have := fs_upd (f := fun i => fd A.1.1 i 6) (g := fun i => fd (updF A.1.1 k 6 0) i 6) n hk (fun i hi hne => by rw [fd_F_ne (by omega) (by decide) (by decide)]) (by rw [fd_F (by decide) (by decide), if_pos ⟨rfl, rfl⟩, z6]; rfl)
        rw [this, Int32.add_sub_cancel]
      · rw [hr] at c4
        rw [if_neg (by rw [b2i_eq0 (Classical.not_not.mp c4)]; decide)] at q8
        obtain ⟨rfl, rfl⟩ := Prod.mk.inj q8
        exact ⟨fun y => absurd rfl y, fun _ => ⟨rfl, hw1, hrf⟩⟩
    · rw [if_neg z6] at q8
      obtain ⟨rfl, rfl⟩ := Prod.mk.inj q8
      rw [ho, (h.zo.1 k (by omega)).1.resolve_right z6]
      exact ⟨fun y => absurd rfl y, fun _ => ⟨fun y => absurd rfl y, fun _ => ⟨rfl, hw1, hrf⟩⟩⟩
theorem T_acts (hc : c ≤ 399) (hw : wfA c A) (h : wf n A.1.1) (hg : A.1.1 1 = 1) (h0 : 0 < n) (hv : v < 2 ^ 31) : CA scr (e0 + 9) nL_acts [.ref 0, .int (nI v)] A (fun x A1 => x = 1 ∧ wfA (c + 1) A1 ∧ NX n A A1) := by
  have hn := h.n16
  refine ca_of rfl rfl (R_L_acts_0 (by omega) hw ?_)
  have hv8 : v / 2 ^ 3 < 2 ^ 31 := Nat.lt_of_le_of_lt (Nat.div_le_self _ _) hv
  rw [h.nOf, cnt0, cnt2, h.a0, show (3 : Int32) = nI 3 from rfl, nI_shr hv (by decide), nI_rem hv8 h0 (by omega)]
  have hk : v / 2 ^ 3 % n < n := Nat.mod_lt _ h0
  generalize v / 2 ^ 3 % n = k at hk
  rw [drw6 h hk, drw8 h hk]
  have z6 := (h.zo.1 k (by omega)).1
  refine ⟨nI_ne0 h0 (by omega), fun c1 => ⟨fun c2 => ?_, fun c2 => ?_⟩, fun c1 => ⟨fun c2 => ?_, fun c2 => ?_⟩⟩
  · exact K_50 hc hw h hg hk hv (by rw [b2i_ne1 c1]; rfl) (z6.resolve_right c2).symm
  · exact K_50 hc hw h hg hk hv (by rw [b2i_ne1 c1]; rfl) (Classical.not_not.mp c2).symm
  · exact K_50 hc hw h hg hk hv (Classical.not_not.mp c1).symm (z6.resolve_right c2).symm
  · exact K_50 hc hw h hg hk hv (Classical.not_not.mp c1).symm (Classical.not_not.mp c2).symm
end AC

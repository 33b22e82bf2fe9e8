/-! count, on both sides -/
noncomputable def opCount (n : Nat) (A : Ab) (w : Int32) : Int32 :=
  if 0 ≤ w ∧ w ≤ 10 then if w = 0 then A.1.1 0 else if w = 1 then A.1.1 1 else if w = 2 then fsum (fun i => fd A.1.1 i 6) n else if w = 3 then bits (fun t => ft A.1.1 t 2 == 1) 12 else if w = 4 then fsum (fun i => fd A.1.1 i 7) n else if w = 5 then A.1.1 2 else if w = 6 then (if stk n A.1.1 = 0 then 1 else 0) else if w = 7 then stk n A.1.1 else if w = 8 then (if A.1.1 1 = 1 then bits (canO A.1.1) n else 0) else if w = 9 then nI A.2.1.1 else nI A.2.2.2.1 else -2
section CO
variable {d n k : Nat} {M : Im} {h : Hm} {D : Dm} {A : Ab} {v w : Int32} {Q : Int32 → Im → Hm → Dm → Prop}
theorem bits_canO {a : V} : foru (fun k => if canO a k then 1 <<< (nI k &&& 31) else 0) n = bits (canO a) n := rfl
theorem X_count (hw : wf n A.1.1) (hI : IX M h A) (hQ : ∀ M1, IX M1 h A → FrX M M1 → Q (opCount n A w) M1 h D) : CI (d + 7) nX3_count [.ref 0, .int w] M h D Q := by
  have hR := hI.1
  have s1 : St 1 := Or.inl rfl
  have hn := hw.n16
  have hq := hQ M hI (FrX.refl M)
  unfold opCount at hq hQ
  refine ci_of rfl rfl (R_X3_count_0 ⟨fun c => ?_, fun c => ?_, fun c => ?_, fun c => ?_, fun c => ?_, fun c => ?_, fun c => ?_, fun c => ?_, fun c => ?_, fun c => ?_, fun c => ?_, fun c => ?_⟩)
  · rw [if_neg (show ¬ (0 ≤ w ∧ w ≤ 10) from nin (m := 10) (by decide) c)] at hq; exact hq
  · subst c
    rw [if_pos (by decide), if_pos rfl] at hq
    rw [hR.1]; exact hq
  · subst c
    rw [if_pos (by decide), if_neg (by decide), if_pos rfl] at hq
    rw [hR.2.1]
    refine ci_of rfl rfl (R_X3_oneIf_0 ⟨fun z => ?_, fun z => ?_⟩)
    · rw [z] at hq; exact hq
    · rw [hw.a1.resolve_left z] at hq; exact hq
  · subst c
    rw [if_pos (by decide), if_neg (by decide), if_neg (by decide), if_pos rfl] at hq
    refine t_bitCount hR.2.2.2.2.1 (by decide) ?_
    rw [cnt_d hn (fun k hk => (hw.zo.1 k hk).1) (fun k h1 h2 => (hw.zr k h1 h2).2.2.1)]; exact hq
  · subst c
    rw [if_pos (by decide), if_neg (by decide), if_neg (by decide), if_neg (by decide), if_pos rfl] at hq
    rw [show M 1 6 = bits (fun t => ft A.1.1 t 2 == 1) 12 from bs_ext hR.2.2.2.2.2.2.1 (bs_foru 12 (by decide)) (fun _ _ => rfl)]
    exact hq
  · subst c
    rw [if_pos (by decide), if_neg (by decide), if_neg (by decide), if_neg (by decide), if_neg (by decide), if_pos rfl] at hq
    refine t_bitCount hR.2.2.2.2.2.1 (by decide) ?_
    rw [cnt_d hn (fun k hk => (hw.zo.1 k hk).2) (fun k h1 h2 => (hw.zr k h1 h2).2.2.2)]; exact hq
  · subst c
    rw [if_pos (by decide), if_neg (by decide), if_neg (by decide), if_neg (by decide), if_neg (by decide), if_neg (by decide), if_pos rfl] at hq
    rw [hR.2.2.1]; exact hq
  · subst c
    rw [if_pos (by decide), if_neg (by decide), if_neg (by decide), if_neg (by decide), if_neg (by decide), if_neg (by decide), if_neg (by decide), if_pos rfl] at hQ
    refine tX_never hw hI (fun M1 i1 f1 => nn_if (fun z => ?_) (fun z => ?_))
    · have hq := hQ M1 i1 f1
      rw [if_neg z] at hq; exact t_oneIf (b := false) hq
    · have hq := hQ M1 i1 f1
      rw [if_pos z] at hq; exact t_oneIf (b := true) hq
  · subst c
    rw [if_pos (by decide), if_neg (by decide), if_neg (by decide), if_neg (by decide), if_neg (by decide), if_neg (by decide), if_neg (by decide), if_neg (by decide), if_pos rfl] at hQ
    exact tX_never hw hI (fun M1 i1 f1 => hQ M1 i1 f1)
  · subst c
    rw [if_pos (by decide), if_neg (by decide), if_neg (by decide), if_neg (by decide), if_neg (by decide), if_neg (by decide), if_neg (by decide), if_neg (by decide), if_neg (by decide), if_pos rfl] at hq
    rw [hR.2.1]
    refine ⟨fun z => ?_, fun z => ?_⟩
    · rw [if_neg (by rw [z]; decide)] at hq; exact hq
    · rw [if_pos (hw.a1.resolve_left z)] at hq
      exact tS_openableNow s1 hR hw.a0 hw.out hw.by' hw.zo hn hq
  · subst c
    rw [if_pos (by decide), if_neg (by decide), if_neg (by decide), if_neg (by decide), if_neg (by decide), if_neg (by decide), if_neg (by decide), if_neg (by decide), if_neg (by decide), if_neg (by decide), if_pos rfl] at hq
    rw [hI.2.1.1]; exact hq
  · subst c
    rw [if_pos (by decide), if_neg (by decide), if_neg (by decide), if_neg (by decide), if_neg (by decide), if_neg (by decide), if_neg (by decide), if_neg (by decide), if_neg (by decide), if_neg (by decide), if_neg (by decide)] at hq
    rw [hI.2.2.2.1]; exact hq
theorem EF_pbk {a : V} (hw : wf n a) : EF a (pbk a) 0 := by
  unfold pbk
  refine Or.inr ⟨rfl, ⟨fun k j hk hj => ?_, fun t j ht hj => ?_⟩, ?_, fun k hk => ⟨?_, ?_, ?_⟩, fun t ht => ?_⟩
  · rw [fd_H (by decide), asl_fd hk (by omega), if_neg (by omega)]
  · rw [ft_H (by decide), asl_ft ht (by omega), if_neg (by omega)]
  · rw [hd_H, if_neg (by decide), asl_hd (by decide), if_neg (by decide)]
  · rw [fd_H (by decide), asl_fd hk (by decide), if_pos (by decide)]
  · rw [fd_H (by decide), asl_fd hk (by decide), if_pos (by decide)]
  · rw [fd_H (by decide), asl_fd hk (by decide), if_pos (by decide)]
  · rw [ft_H (by decide), asl_ft ht (by decide), if_pos rfl]
theorem l_stuck {a : V} (h0 : M 74 0 = nI n) (hn : n ≤ 16) (hB : BM M 80 (CANS n (pbk a))) (hQ : Q (stk n a) M h D) : ∀ (m i : Nat), i + m = n → EvI d nX4_stuckSet 9 [(0, .ref 73), (1, .int (bits (fun k => !dB (CANS n (pbk a) k)) i)), (2, .int (nI i))] [] M h D Q
  | 0, i, hi => by
    obtain rfl : i = n := by omega
    refine R_X4_stuckSet_9 ⟨vpl (by decide), ?_⟩
    rw [z_clamp, h0]
    exact ⟨fun _ => hQ, fun c => absurd ((nI_leI (by omega) (by omega)).mpr (Nat.le_refl _)) c⟩
  | m + 1, i, hi => by
    have hh := l_stuck h0 hn hB hQ m (i + 1) (by omega)
    have hbs : bits (fun k => !dB (CANS n (pbk a) k)) (i + 1) = bits (fun k => !dB (CANS n (pbk a) k)) i ||| (if (!dB (CANS n (pbk a) i)) = true then 1 <<< (nI i &&& 31) else 0) := rfl
    rw [hbs] at hh
    refine R_X4_stuckSet_9 ⟨vpl (by decide), ?_⟩
    rw [z_clamp, h0]
    refine ⟨fun c => absurd ((nI_leI (by omega) (by omega)).mp c) (by omega), fun _ => ⟨kvp (by omega) (by decide), ?_⟩⟩
    rw [nI_clamp (by omega), nI_1]
    refine ⟨fun c => ?_, fun c => ?_⟩
    · rcases hB i (by omega) with y | y
      · rw [dB_f.mpr y.2] at hh; exact hh
      · rw [y.1] at c; exact absurd c (by decide)
    · rcases hB i (by omega) with y | y
      · exact absurd y.1 c
      · rw [dB_t.mpr y.2] at hh; exact hh
theorem tM_stuck (hw : wf n A.1.1) (hI : IM M D A) (hQ : ∀ M1, IM M1 D A → FrM M M1 → Q (stk n A.1.1) M1 h D) : CI (d + 6) nX4_stuckSet [.ref 73] M h D Q := by
  obtain ⟨⟨a, q⟩, B⟩ := A
  have ha : M 74 = a := hI.1.1
  subst ha
  have hw : wf n (M 74) := hw
  have hwp : wf n (pbk (M 74)) := wf_asl hw 0 (Or.inl rfl)
  refine ci_of rfl rfl (R_X4_stuckSet_0 (t_reckon hwp (EF_pbk hw) (fun M1 c1 m1 b1' f1 => ?_)))
  have hF : ∀ c, c ≠ 78 → c ≠ 79 → c ≠ 80 → c ≠ 81 → M1 c = up2 M 73 13 0 c := fun c h1 h2 h3 h4 => f1 c h1 h2 h3
  refine l_stuck (a := M 74) ?_ hw.n16 b1' (hQ M1 (IM_K hI hF) (FrM_K hF)) n 0 (by omega)
  rw [hF 74 (by decide) (by decide) (by decide) (by decide), up2_ne _ _ _ (by decide)]; exact hw.a0
theorem M_count (hw : wf n A.1.1) (hI : IM M D A) (hQ : ∀ M1, IM M1 D A → FrM M M1 → Q (opCount n A w) M1 h D) : CI (d + 7) nX4_count [.ref 73, .int w] M h D Q := by
  have hn := hw.n16
  have ha : M 74 = A.1.1 := hI.1.1
  have hw' : wf n (M 74) := by rw [ha]; exact hw
  have hq := hQ M hI (FrM.refl M)
  unfold opCount at hq hQ
  refine ci_of rfl rfl (R_X4_count_0 ⟨fun c => ?_, fun c => ⟨vpl (by decide), ?_⟩, fun c => ⟨vpl (by decide), ?_⟩, fun c => ?_, fun c => ?_, fun c => ?_, fun c => ⟨vpl (by decide), ?_⟩, fun c => ?_, fun c => ?_, fun c => ?_, fun c => ?_, fun c => ?_⟩)
  · rw [if_neg (show ¬ (0 ≤ w ∧ w ≤ 10) from nin (m := 10) (by decide) c)] at hq; exact hq
  · subst c
    rw [if_pos (by decide), if_pos rfl] at hq
    rw [z_clamp, ha]; exact hq
  · subst c
    rw [if_pos (by decide), if_neg (by decide), if_pos rfl] at hq
    rw [o_clamp, ha]; exact hq
  · subst c
    rw [if_pos (by decide), if_neg (by decide), if_neg (by decide), if_pos rfl] at hq
    refine t_sumOf (j := 6) hw'.a0 hn (by decide) ?_
    rw [ha]; exact hq
  · subst c
    rw [if_pos (by decide), if_neg (by decide), if_neg (by decide), if_neg (by decide), if_pos rfl] at hq
    refine t_handSet ?_
    rw [ha, show foru (fun t => ft A.1.1 t 2 <<< (nI t &&& 31)) 12 = bits (fun t => ft A.1.1 t 2 == 1) 12 from foru_w (fun t ht => by
      show ft A.1.1 t 2 <<< (nI t &&& 31) = if (ft A.1.1 t 2 == 1) = true then 1 <<< (nI t &&& 31) else 0
      rcases hw.zo.2 t ht with z | z
      · rw [z, shl_0 (by omega), if_neg (by decide)]
      · rw [z, if_pos (by decide)])]
    exact hq
  · subst c
    rw [if_pos (by decide), if_neg (by decide), if_neg (by decide), if_neg (by decide), if_neg (by decide), if_pos rfl] at hq
    refine t_sumOf (j := 7) hw'.a0 hn (by decide) ?_
    rw [ha]; exact hq
  · subst c
    rw [if_pos (by decide), if_neg (by decide), if_neg (by decide), if_neg (by decide), if_neg (by decide), if_neg (by decide), if_pos rfl] at hq
    rw [show (2 : Int32).toNatClampNeg = 2 by decide, ha]; exact hq
  · subst c
    rw [if_pos (by decide), if_neg (by decide), if_neg (by decide), if_neg (by decide), if_neg (by decide), if_neg (by decide), if_neg (by decide), if_pos rfl] at hQ
    refine tM_stuck hw hI (fun M1 i1 f1 => nn_if (fun z => ?_) (fun z => ?_))
    · have hq := hQ M1 i1 f1
      rw [if_neg z] at hq; exact hq
    · have hq := hQ M1 i1 f1
      rw [if_pos z] at hq; exact hq
  · subst c
    rw [if_pos (by decide), if_neg (by decide), if_neg (by decide), if_neg (by decide), if_neg (by decide), if_neg (by decide), if_neg (by decide), if_neg (by decide), if_pos rfl] at hQ
    exact tM_stuck hw hI (fun M1 i1 f1 => hQ M1 i1 f1)
  · subst c
    rw [if_pos (by decide), if_neg (by decide), if_neg (by decide), if_neg (by decide), if_neg (by decide), if_neg (by decide), if_neg (by decide), if_neg (by decide), if_neg (by decide), if_pos rfl, ← ha] at hq
    refine t_isGame (fun hg => ⟨fun z => absurd z b1, fun _ => ?_⟩) (fun hg => ⟨fun _ => ?_, fun z => absurd rfl z⟩)
    · rw [if_pos hg] at hq
      exact t_openableSet hw'.a0 hw'.out hw'.by' hn hq
    · rw [if_neg hg] at hq; exact hq
  · subst c
    rw [if_pos (by decide), if_neg (by decide), if_neg (by decide), if_neg (by decide), if_neg (by decide), if_neg (by decide), if_neg (by decide), if_neg (by decide), if_neg (by decide), if_neg (by decide), if_pos rfl] at hq
    rw [hI.2.1.1]; exact hq
  · subst c
    rw [if_pos (by decide), if_neg (by decide), if_neg (by decide), if_neg (by decide), if_neg (by decide), if_neg (by decide), if_neg (by decide), if_neg (by decide), if_neg (by decide), if_neg (by decide), if_neg (by decide)] at hq
    rw [hI.2.2.2.1]; exact hq
end CO

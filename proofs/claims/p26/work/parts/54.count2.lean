/-! count, on both sides -/
noncomputable def opCount (n : Nat) (A : Ab) (w : Int32) : Int32 :=
  if 0 ≤ w ∧ w ≤ 10 then if w = 0 then A.1.1 0 else if w = 1 then A.1.1 1 else if w = 2 then fsum (fun i => fd A.1.1 i 6) n else if w = 3 then bits (fun t => ft A.1.1 t 2 == 1) 12 else if w = 4 then fsum (fun i => fd A.1.1 i 7) n else if w = 5 then A.1.1 2 else if w = 6 then (if stk n A.1.1 = 0 then 1 else 0) else if w = 7 then stk n A.1.1 else if w = 8 then (if A.1.1 1 = 1 then bits (canO A.1.1) n else 0) else if w = 9 then nI A.2.1.1 else nI A.2.2.2.1 else -2
section CO
variable {d n k : Nat} {M : Im} {h : Hm} {D : Dm} {A : Ab} {v w : Int32} {Q : Int32 → Im → Hm → Dm → Prop}
theorem bits_canO {a : V} : foru (fun k => if canO a k then 1 <<< (nI k &&& 31) else 0) n = bits (canO a) n := rfl
theorem X_count (hw : wf n A.1.1) (hI : IX M h A) (hQ : ∀ M1, IX M1 h A → FrX M M1 → Q (opCount n A w) M1 h D) : CI (d + 7) nX3_count [.ref 0, .int w] M h D Q := by
  have hR := hI.1
  have s1 : St 1 := Or.inl rfl
  have hn := hw.n16
  have hq := hQ M hI (FrX.refl M)
  unfold opCount at hq hQ
  refine ci_of rfl rfl (R_X3_count_0 ⟨fun c => ?_, fun c => ?_, fun c => ?_, fun c => ?_, fun c => ?_, fun c => ?_, fun c => ?_, fun c => ?_, fun c => ?_, fun c => ?_, fun c => ?_, fun c => ?_⟩)
  · rw [if_neg (show ¬ (0 ≤ w ∧ w ≤ 10) from nin (m := 10) (by decide) c)] at hq; exact hq
  · subst c
    rw [if_pos (by decide), if_pos rfl] at hq
    rw [hR.1]; exact hq
  · subst c
    rw [if_pos (by decide), if_neg (by decide), if_pos rfl] at hq
    rw [hR.2.1]
    refine ci_of rfl rfl (R_X3_oneIf_0 ⟨fun z => ?_, fun z => ?_⟩)
    · rw [z] at hq; exact hq
    · rw [hw.a1.resolve_left z] at hq; exact hq
  · subst c
    rw [if_pos (by decide), if_neg (by decide), if_neg (by decide), if_pos rfl] at hq
    refine t_bitCount hR.2.2.2.2.1 (by decide) ?_
    rw [cnt_d hn (fun k hk => (hw.zo.1 k hk).1) (fun k h1 h2 => (hw.zr k h1 h2).2.2.1)]; exact hq
  · subst c
    rw [if_pos (by decide), if_neg (by decide), if_neg (by decide), if_neg (by decide), if_pos rfl] at hq
    rw [show M 1 6 = bits (fun t => ft A.1.1 t 2 == 1) 12 from bs_ext hR.2.2.2.2.2.2.1 (bs_foru 12 (by decide)) (fun _ _ => rfl)]
    exact hq
  · subst c
    rw [if_pos (by decide), if_neg (by decide), if_neg (by decide), if_neg (by decide), if_neg (by decide), if_pos rfl] at hq
    refine t_bitCount hR.2.2.2.2.2.1 (by decide) ?_
    rw [cnt_d hn (fun k hk => (hw.zo.1 k hk).2) (fun k h1 h2 => (hw.zr k h1 h2).2.2.2)]; exact hq
  · subst c
    rw [if_pos (by decide), if_neg (by decide), if_neg (by decide), if_neg (by decide), if_neg (by decide), if_neg (by decide), if_pos rfl] at hq
    rw [hR.2.2.1]; exact hq
  · subst c
    rw [if_pos (by decide), if_neg (by decide), if_neg (by decide), if_neg (by decide), if_neg (by decide), if_neg (by decide), if_neg (by decide), if_pos rfl] at hQ
    refine tX_never hw hI (fun M1 i1 f1 => nn_if (fun z => ?_) (fun z => ?_))
    · have hq := hQ M1 i1 f1
      rw [if_neg z] at hq; exact t_oneIf (b := false) hq
    · have hq := hQ M1 i1 f1
      rw [if_pos z] at hq; exact t_oneIf (b := true) hq
  · subst c
    rw [if_pos (by decide), if_neg (by decide), if_neg (by decide), if_neg (by decide), if_neg (by decide), if_neg (by decide), if_neg (by decide), if_neg (by decide), if_pos rfl] at hQ
    exact tX_never hw hI (fun M1 i1 f1 => hQ M1 i1 f1)
  · subst c
    rw [if_pos (by decide), if_neg (by decide), if_neg (by decide), if_neg (by decide), if_neg (by decide), if_neg (by decide), if_neg (by decide), if_neg (by decide), if_neg (by decide), if_pos rfl] at hq
    rw [hR.2.1]
    refine ⟨fun z => ?_, fun z => ?_⟩
    · rw [if_neg (by rw [z]; decide)] at hq; exact hq
    · rw [if_pos (hw.a1.resolve_left z)] at hq
      exact tS_openableNow s1 hR hw.a0 hw.out hw.by' hw.zo hn hq
  · subst c
    rw [if_pos (by decide), if_neg (by decide), if_neg (by decide), if_neg (by decide), if_neg (by decide), if_neg (by decide), if_neg (by decide), if_neg (by decide), if_neg (by decide), if_neg (by decide), if_pos rfl] at hq
    rw [hI.2.1.1]; exact hq
  · subst c
    rw [if_pos (by decide), if_neg (by decide), if_neg (by decide), if_neg (by decide), if_neg (by decide), if_neg (by decide), if_neg (by decide), if_neg (by decide), if_neg (by decide), if_neg (by decide), if_neg (by decide)] at hq
    rw [hI.2.2.2.1]; exact hq
end CO

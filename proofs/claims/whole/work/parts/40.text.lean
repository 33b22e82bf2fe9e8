/-! minutes, type, clearText, on both sides -/
section TE
variable {d n : Nat} {M : Im} {h : Hm} {D : Dm} {A : Ab} {v : Int32} {Q : Int32 → Im → Hm → Dm → Prop}
theorem IX_31 {t : Nat × (Nat → Int32)} {M1 : Im} (hI : IX M h A) (hF : ∀ c, c ≠ 31 → c ≠ 32 → M1 c = M c) (hT : TX M1 t) : IX M1 h (A.1, A.2.1, A.2.2.1, t) := by
  obtain ⟨g1, ⟨g2, g3, g4, g5, g6⟩, g7, g8⟩ := hI
  refine ⟨RS_fr g1 (fun c _ _ => hF c (by omega) (by omega)), ⟨?_, g3, g4, g5, fun i S hi hS => ?_⟩, ?_, hT⟩
  · rw [hF 0 (by decide) (by decide)]; exact g2
  · obtain ⟨S2, hs2, e⟩ := g4 i (by have : i < A.2.1.1 := hi; omega)
    rw [e] at hS; obtain rfl : S2 = S := Option.some.inj hS
    exact RS_fr (g6 i S2 hi e) (fun c _ _ => hF c (by unfold hst at hs2; omega) (by unfold hst at hs2; omega))
  · show KX M1 A.2.2.1
    cases hk : A.2.2.1 with
    | none => rw [hk] at g7; show M1 0 7 = 0; rw [hF 0 (by decide) (by decide)]; exact g7
    | some r =>
      rw [hk] at g7
      refine ⟨?_, RS_fr g7.2 (fun c _ _ => hF c (by omega) (by omega))⟩
      rw [hF 0 (by decide) (by decide)]; exact g7.1
theorem IM_83 {t : Nat × (Nat → Int32)} {M1 : Im} (hI : IM M D A) (hF : ∀ c, c ≠ 73 → c ≠ 83 → M1 c = M c) (h11 : M1 73 11 = M 73 11) (h12 : M1 73 12 = M 73 12) (hT : TM M1 t) : IM M1 D (A.1, A.2.1, A.2.2.1, t) := by
  obtain ⟨⟨k1, k2⟩, ⟨k3, k4⟩, k5, k6⟩ := hI
  refine ⟨⟨(hF 74 (by decide) (by decide)).trans k1, k2⟩, ⟨h11.trans k3, fun i hi => ⟨fun j hj => ?_, (k4 i hi).2⟩⟩, ?_, hT⟩
  · rw [hF 75 (by decide) (by decide)]; exact (k4 i hi).1 j hj
  · show KM M1 D A.2.2.1
    cases hk : A.2.2.1 with
    | none => rw [hk] at k5; exact h12.trans k5
    | some r =>
      rw [hk] at k5
      refine ⟨h12.trans k5.1, fun j hj => ?_, k5.2.2⟩
      rw [hF 76 (by decide) (by decide)]; exact k5.2.1 j hj
theorem X_type (hI : IX M h A) (hQ : ∀ M1 h1, IX M1 h1 (opType A v).2 → FrX M M1 → Q (opType A v).1 M1 h1 D) : CI (d + 5) nX3_type [.ref 0, .int v] M h D Q := by
  obtain ⟨g8, g9, g10⟩ := hI.2.2.2
  unfold opType at hQ
  refine ci_of rfl rfl (R_X3_type_0 (ci_of rfl rfl (R_X0_append_0 ?_)))
  rw [g8]
  refine ⟨fun c => ?_, fun c => ?_⟩
  · have hl : A.2.2.2.1 < 60 := (nI_ltI (b := 60) (by omega) (by decide)).mp c
    rw [if_pos hl] at hQ
    rw [nI_clamp (by omega)]
    refine ⟨vp_in_nI hl (by decide), fun M2 e2 => ⟨fun z => absurd z b1, fun _ => ?_⟩⟩
    have e31 : up2 M 32 A.2.2.2.1 v.toUInt32.toUInt16.toUInt32.toInt32 31 1 = nI A.2.2.2.1 := by rw [up2_ne _ _ _ (by decide)]; exact g8
    rw [e31] at e2
    have z1 : M2 31 1 = nI (A.2.2.2.1 + 1) := by rw [e2, ← nI_1]; simp [up2]
    rw [z1]
    refine hQ M2 h (IX_31 hI (fun c h1 h2 => by rw [e2, up2_ne _ _ _ h1, up2_ne _ _ _ h2]) ⟨z1, hl, fun i hi => ?_⟩) (fun c hc => by rw [e2, up2_ne _ _ _ (by omega), up2_ne _ _ _ (by omega)])
    have hi2 : i < A.2.2.2.1 + 1 := hi
    rw [e2, up2_ne _ _ _ (by decide)]
    show up2 M 32 A.2.2.2.1 _ 32 i = if i = A.2.2.2.1 then chr v else A.2.2.2.2 i
    by_cases e : i = A.2.2.2.1
    · rw [if_pos e, e]; simp [up2, chr]
    · rw [if_neg e]; simp only [up2]; rw [if_neg (fun z => e z.2)]; exact g10 i (by omega)
  · rw [if_neg (fun z => c ((nI_ltI (b := 60) (by omega) (by decide)).mpr z))] at hQ
    exact ⟨fun _ => hQ M h hI (FrX.refl M), fun z => absurd rfl z⟩
theorem M_type (hI : IM M D A) (ht : A.2.2.2.1 ≤ 60) (hQ : ∀ M1 D1, IM M1 D1 (opType A v).2 → FrM M M1 → Q (opType A v).1 M1 h D1) : CI (d + 5) nX4_type [.ref 73, .int v] M h D Q := by
  obtain ⟨k6, k7⟩ := hI.2.2.2
  unfold opType at hQ
  refine ci_of rfl rfl (R_X4_type_0 ?_)
  rw [k6]
  refine ⟨fun c => ?_, fun c => ?_⟩
  · have hl : A.2.2.2.1 < 60 := Nat.lt_of_le_of_ne ht (fun z => c (by rw [z]; rfl))
    rw [if_pos hl] at hQ
    rw [nI_clamp (by omega)]
    refine ⟨vp_in_nI hl (by decide), fun M2 e2 => ?_⟩
    have e31 : up2 M 83 A.2.2.2.1 v.toUInt32.toUInt16.toUInt32.toInt32 73 10 = nI A.2.2.2.1 := by rw [up2_ne _ _ _ (by decide)]; exact k6
    rw [e31] at e2
    have z1 : M2 73 10 = nI (A.2.2.2.1 + 1) := by rw [e2, ← nI_1]; simp [up2]
    rw [z1]
    refine hQ M2 D (IM_83 hI (fun c h1 h2 => by rw [e2, up2_ne _ _ _ h1, up2_ne _ _ _ h2]) (by rw [e2]; simp [up2]) (by rw [e2]; simp [up2]) ⟨z1, fun i hi => ?_⟩) (fun c hc => by rw [e2, up2_ne _ _ _ (by omega), up2_ne _ _ _ (by omega)])
    have hi2 : i < A.2.2.2.1 + 1 := hi
    rw [e2, up2_ne _ _ _ (by decide)]
    show up2 M 83 A.2.2.2.1 _ 83 i = if i = A.2.2.2.1 then chr v else A.2.2.2.2 i
    by_cases e : i = A.2.2.2.1
    · rw [if_pos e, e]; simp [up2, chr]
    · rw [if_neg e]; simp only [up2]; rw [if_neg (fun z => e z.2)]; exact k7 i (by omega)
  · rw [if_neg (fun z => c (fun y => by have := nI_inj' (b := 60) (by omega) (by decide) y; omega))] at hQ
    exact hQ M D hI (FrM.refl M)
theorem X_clear (hI : IX M h A) (hQ : ∀ M1 h1, IX M1 h1 (opClear A).2 → FrX M M1 → Q (opClear A).1 M1 h1 D) : CI (d + 5) nX3_clearText [.ref 0] M h D Q := by
  obtain ⟨g8, g9, g10⟩ := hI.2.2.2
  refine ci_of rfl rfl (R_X3_clearText_0 ?_)
  rw [g8]
  exact hQ _ h (IX_31 hI (fun c h1 _ => up2_ne _ _ _ h1) ⟨by simp [up2]; rfl, Nat.zero_le _, fun i hi => absurd hi (Nat.not_lt_zero i)⟩) (fun c hc => up2_ne _ _ _ (by omega))
theorem M_clear (hI : IM M D A) (hQ : ∀ M1 D1, IM M1 D1 (opClear A).2 → FrM M M1 → Q (opClear A).1 M1 h D1) : CI (d + 5) nX4_clearText [.ref 73] M h D Q := by
  obtain ⟨k6, k7⟩ := hI.2.2.2
  refine ci_of rfl rfl (R_X4_clearText_0 ?_)
  rw [k6]
  exact hQ _ D (IM_83 hI (fun c h1 _ => up2_ne _ _ _ h1) (by simp [up2]) (by simp [up2]) ⟨by simp [up2]; rfl, fun i hi => absurd hi (Nat.not_lt_zero i)⟩) (fun c hc => up2_ne _ _ _ (by omega))
end TE

/-! THE MODEL: texts read -/
def MTt (M : Im) (t : Tx) (p f : Nat) : Prop := M 73 10 = nI t.1 ∧ M 73 14 = nI p ∧ M 73 15 = nI f ∧ ∀ i, i < t.1 → M 83 i = t.2 i
def FrQ (b : Nat) (M M1 : Im) : Prop := (∀ c, c ≠ 73 → c ≠ 82 → M1 c = M c) ∧ (∀ i, i ≠ 14 → i ≠ 15 → M1 73 i = M 73 i) ∧ ∀ i, i < b → M1 82 i = M 82 i
theorem FrQ.refl (b : Nat) (M : Im) : FrQ b M M := ⟨fun _ _ _ => rfl, fun _ _ _ => rfl, fun _ _ => rfl⟩
theorem FrQ.tr {b : Nat} {M M1 M2 : Im} (h1 : FrQ b M M1) (h2 : FrQ b M1 M2) : FrQ b M M2 := ⟨fun c x y => (h2.1 c x y).trans (h1.1 c x y), fun i x y => (h2.2.1 i x y).trans (h1.2.1 i x y), fun i x => (h2.2.2 i x).trans (h1.2.2 i x)⟩
theorem FrQ.le {b c : Nat} {M M1 : Im} (h : FrQ b M M1) (hc : c ≤ b) : FrQ c M M1 := ⟨h.1, h.2.1, fun i x => h.2.2 i (by omega)⟩
theorem FrQ.p73 {b k : Nat} {M M1 : Im} {x : Int32} (h : FrQ b M M1) (hk : k = 14 ∨ k = 15) : FrQ b M (up2 M1 73 k x) := ⟨fun c y z => by rw [up2_ne _ _ _ y]; exact h.1 c y z, fun i y z => by unfold up2; rw [if_neg (by omega)]; exact h.2.1 i y z, fun i y => by rw [up2_ne _ _ _ (by decide)]; exact h.2.2 i y⟩
theorem FrQ.p82 {b k : Nat} {M M1 : Im} {x : Int32} (h : FrQ b M M1) (hk : b ≤ k) : FrQ b M (up2 M1 82 k x) := ⟨fun c y z => by rw [up2_ne _ _ _ z]; exact h.1 c y z, fun i y z => by rw [up2_ne _ _ _ (by decide)]; exact h.2.1 i y z, fun i y => by unfold up2; rw [if_neg (by omega)]; exact h.2.2 i y⟩
def XWM (M : Im) (i : Nat) (w : Rw) : Prop := M 82 (4 * i) = w.1 ∧ M 82 (4 * i + 1) = w.2.1 ∧ M 82 (4 * i + 2) = w.2.2.1 ∧ M 82 (4 * i + 3) = nI w.2.2.2
theorem mul4 (p : Nat) : (4 : Int32) * nI p = nI (4 * p) := by
  apply Int32.toBitVec_inj.mp
  rw [Int32.toBitVec_mul]
  show BitVec.ofNat 32 4 * BitVec.ofNat 32 p = BitVec.ofNat 32 (4 * p)
  exact (BitVec.ofNat_mul 4 p).symm
theorem rdN_n {t : Tx} {p : Nat} (h : (rdN t p).1 = none) : (rdN t p).2 = p := by
  unfold rdN at h ⊢
  by_cases c : (rdD t p 0 9).1 = some 1
  · rw [if_pos c] at h
    unfold rdN2 at h
    cases hd : (rdD t (rdD t p 0 9).2 0 5).1 with
    | some d => rw [hd] at h; cases h
    | none => rw [hd] at h; cases h
  · rw [if_neg c] at h ⊢; exact rdD_n h
section MP
variable {d p f : Nat} {t : Tx} {M : Im} {h : Hm} {D : Dm} {Q : Int32 → Im → Hm → Dm → Prop}
theorem MTt.at {q : Nat} (h : MTt M t p f) : MTt (up2 M 73 14 (nI q)) t q f := by
  obtain ⟨h1, h2, h3, h4⟩ := h
  refine ⟨?_, ?_, ?_, fun i hi => ?_⟩
  · rw [show up2 M 73 14 (nI q) 73 10 = M 73 10 by simp [up2]]; exact h1
  · simp [up2]
  · rw [show up2 M 73 14 (nI q) 73 15 = M 73 15 by simp [up2]]; exact h3
  · rw [up2_ne _ _ _ (by decide)]; exact h4 i hi
theorem MTt.fw {f2 : Nat} (h : MTt M t p f) : MTt (up2 M 73 15 (nI f2)) t p f2 := by
  obtain ⟨h1, h2, h3, h4⟩ := h
  refine ⟨?_, ?_, ?_, fun i hi => ?_⟩
  · rw [show up2 M 73 15 (nI f2) 73 10 = M 73 10 by simp [up2]]; exact h1
  · rw [show up2 M 73 15 (nI f2) 73 14 = M 73 14 by simp [up2]]; exact h2
  · simp [up2]
  · rw [up2_ne _ _ _ (by decide)]; exact h4 i hi
theorem MTt.w82 {k : Nat} {x : Int32} (h : MTt M t p f) : MTt (up2 M 82 k x) t p f := by
  unfold MTt
  rw [up2_ne _ _ _ (show (73 : Nat) ≠ 82 by decide), up2_ne _ _ _ (show (83 : Nat) ≠ 82 by decide)]; exact h
theorem t_isSign {k lo hi : Nat} (hT : MTt M t p f) (ht : txOk t) (hk : k ≤ t.1) (hl : lo < 200) (hh : hi < 200) (h1 : sg t k lo hi = true → Q 1 M h D) (h0 : sg t k lo hi = false → Q 0 M h D) : CI (d + 1) nX4_isSign [.ref 73, .int (nI k), .int (nI lo), .int (nI hi)] M h D Q := by
  obtain ⟨g1, g2, g3, g4⟩ := hT
  have hL := ht.1
  refine ci_of rfl rfl (R_X4_isSign_0 ?_)
  rw [g1]
  refine ⟨fun z => h0 (decide_eq_false (fun y => ?_)), fun z => ?_⟩
  · exact absurd ((nI_leI (by omega) (by omega)).mp z) (by omega)
  · have hlt : k < t.1 := by
      rcases Nat.lt_or_ge k t.1 with y | y
      · exact y
      · exact absurd ((nI_leI (by omega) (by omega)).mpr y) z
    obtain ⟨c1, c2⟩ := ht.2 k hlt
    rw [nI_clamp (by omega), g4 k hlt, c1]
    refine ⟨vp_in_nI (by omega) (by decide), fun y => h0 (decide_eq_false (fun w => ?_)), fun y => ⟨vp_in_nI (by omega) (by decide), fun y2 => h0 (decide_eq_false (fun w => ?_)), fun y2 => h1 (decide_eq_true ⟨hlt, ?_, ?_⟩)⟩⟩
    · have := (nI_ltI (by omega) (by omega)).mp y; omega
    · have := (nI_ltI (by omega) (by omega)).mp y2; omega
    · rcases Nat.lt_or_ge (ch t k) lo with w | w
      · exact absurd ((nI_ltI (by omega) (by omega)).mpr w) y
      · exact w
    · rcases Nat.lt_or_ge hi (ch t k) with w | w
      · exact absurd ((nI_ltI (by omega) (by omega)).mpr w) y2
      · exact w
theorem tm_readNumber {b : Nat} (hT : MTt M t p f) (ht : txOk t) (hp : p ≤ t.1) (hQ : ∀ M1, MTt M1 t (rdN t p).2 f → FrQ b M M1 → M1 82 = M 82 → Q (oN (rdN t p).1) M1 h D) : CI (d + 2) nX4_readsNumber [.ref 73] M h D Q := by
  have hL := ht.1
  refine ci_of rfl rfl (R_X4_readsNumber_0 ?_)
  rw [hT.2.1]
  unfold rdN at hQ
  refine t_isSign (lo := 48) (hi := 57) hT ht hp (by decide) (by decide) (fun c => ⟨fun _ => ?_, fun z => absurd b1 z⟩) (fun c => ⟨fun z => absurd rfl z, fun _ => ?_⟩)
  · obtain ⟨c1, c2, c3⟩ := sg_t c
    have hd : rdD t p 0 9 = (some (ch t p - 48), p + 1) := if_pos c
    rw [hd] at hQ
    obtain ⟨e1, e2⟩ := ht.2 p c1
    rw [hT.2.1, nI_clamp (by omega), hT.2.2.2 p c1, e1, show nI (ch t p) - 48 = nI (ch t p - 48) from nI_sub' (b := 48) (by omega), nI_1]
    have t1 := hT.at (q := p + 1)
    have f1 : FrQ b M (up2 M 73 14 (nI (p + 1))) := (FrQ.refl b M).p73 (Or.inl rfl)
    refine ⟨vp_in_nI (by omega) (by decide), fun z => ?_, fun z => ?_⟩
    · have hne : ¬ (ch t p - 48 = 1) := fun y => z (by rw [y]; rfl)
      rw [if_neg (fun y => hne (Option.some.inj y))] at hQ
      exact hQ _ t1 f1 (up2_ne _ _ _ (by decide))
    · have he : ch t p - 48 = 1 := nI_inj' (b := 1) (by omega) (by decide) (Classical.not_not.mp z)
      rw [he] at hQ ⊢
      rw [if_pos rfl] at hQ
      unfold rdN2 at hQ
      rw [t1.2.1]
      refine t_isSign (lo := 48) (hi := 53) t1 ht c1 (by decide) (by decide) (fun w => ⟨fun y => absurd y b1, fun _ => ?_⟩) (fun w => ⟨fun _ => ?_, fun y => absurd rfl y⟩)
      · obtain ⟨w1, w2, w3⟩ := sg_t w
        have hd2 : rdD t (p + 1) 0 5 = (some (ch t (p + 1) - 48), p + 1 + 1) := if_pos w
        dsimp only at hQ
        rw [hd2] at hQ
        obtain ⟨a1, a2⟩ := ht.2 (p + 1) w1
        rw [t1.2.1, nI_clamp (by omega), t1.2.2.2 (p + 1) w1, a1, nI_1, show (10 : Int32) + nI (ch t (p + 1)) = nI (10 + ch t (p + 1)) from nI_add 10 _, show nI (10 + ch t (p + 1)) - 48 = nI (10 + ch t (p + 1) - 48) from nI_sub' (b := 48) (by omega), show 10 + ch t (p + 1) - 48 = 10 + (ch t (p + 1) - 48) by omega]
        exact ⟨vp_in_nI (by omega) (by decide), hQ _ t1.at (f1.p73 (Or.inl rfl)) (by rw [up2_ne _ _ _ (by decide), up2_ne _ _ _ (by decide)])⟩
      · have hd2 : rdD t (p + 1) 0 5 = (none, p + 1) := if_neg (fun y => by rw [w] at y; cases y)
        dsimp only at hQ
        rw [hd2] at hQ
        exact hQ _ t1 f1 (up2_ne _ _ _ (by decide))
  · have hd : rdD t p 0 9 = (none, p) := if_neg (fun y => by rw [c] at y; cases y)
    rw [hd, if_neg (fun z => by cases z)] at hQ
    exact hQ M hT (FrQ.refl b M) rfl
theorem l_hold {s0 x : Int32} (hT : MTt M t p f) (ht : txOk t) (hp : p < t.1) (hf : f < 21) (hx : (s0 = 104 ∧ x = 0 ∧ rdH t p = (some (0, -5), p + 1)) ∨ (s0 = 115 ∧ x = 3 ∧ rdH t p = (some (3, -5), p + 1)) ∨ (s0 = 107 ∧ x = 1 ∧ rdH t p = ((rdD t (p + 1) 0 9).1.map (fun d => (1, nI d)), (rdD t (p + 1) 0 9).2)) ∨ (s0 = 108 ∧ x = 2 ∧ rdH t p = ((rdN t (p + 1)).1.map (fun d => (2, nI d)), (rdN t (p + 1)).2))) (hQ : ∀ M1, MTt M1 t (rdH t p).2 f → (∀ hb, (rdH t p).1 = some hb → M1 82 (4 * f + 1) = hb.1 ∧ M1 82 (4 * f + 2) = hb.2) → FrQ (4 * f + 1) M M1 → Q (b2i (rdH t p).1.isSome) M1 h D) : EvI (d + 2) nX4_readsHold 74 [(0, .ref 73), (1, .int (nI (4 * f))), (2, .int s0)] [.int x, .int (nI (4 * f + 1)), .ref 82] M h D Q := by
  have hL := ht.1
  refine R_X4_readsHold_74 ?_
  rw [show nI (4 * f) + 1 = nI (4 * f + 1) from nI_1 _, show nI (4 * f) + 2 = nI (4 * f + 2) from lit _ 2, nI_clamp (by omega), nI_clamp (by omega)]
  have e1 : up2 (up2 M 82 (4 * f + 1) x) 82 (4 * f + 2) (-5) 82 (4 * f + 1) = x := by
    unfold up2; rw [if_neg (by omega), if_pos ⟨rfl, rfl⟩]
  rw [e1]
  have hx0 : 0 ≤ x := by rcases hx with ⟨-, rfl, -⟩ | ⟨-, rfl, -⟩ | ⟨-, rfl, -⟩ | ⟨-, rfl, -⟩ <;> decide
  have t0 : MTt (up2 (up2 M 82 (4 * f + 1) x) 82 (4 * f + 2) (-5)) t p f := hT.w82.w82
  have f0 : FrQ (4 * f + 1) M (up2 (up2 M 82 (4 * f + 1) x) 82 (4 * f + 2) (-5)) := ((FrQ.refl _ M).p82 (Nat.le_refl _)).p82 (by omega)
  refine ⟨vp_in_nI (by omega) (by decide), vp_in_nI (by omega) (by decide), vp_in_nI (by omega) (by decide), fun _ M2 e2 => ?_, fun z => absurd hx0 z⟩
  rw [t0.2.1, nI_1] at e2
  have t2 : MTt M2 t (p + 1) f := by rw [e2]; exact t0.at
  have f2 : FrQ (4 * f + 1) M M2 := by rw [e2]; exact f0.p73 (Or.inl rfl)
  have w1 : M2 82 (4 * f + 1) = x := by rw [e2, up2_ne _ _ _ (by decide)]; exact e1
  have w2 : M2 82 (4 * f + 2) = -5 := by rw [e2, up2_ne _ _ _ (by decide)]; simp [up2]
  rcases hx with ⟨rfl, rfl, hr⟩ | ⟨rfl, rfl, hr⟩ | ⟨rfl, rfl, hr⟩ | ⟨rfl, rfl, hr⟩
  · rw [hr] at hQ
    refine ⟨fun _ => ⟨fun _ => R_X4_readsHold_179 ⟨fun _ => ?_, fun z => absurd (by decide) z⟩, fun z => absurd (by decide) z⟩, fun z => absurd (by decide) z⟩
    exact hQ M2 t2 (fun hb ho => by rw [← Option.some.inj ho]; exact ⟨w1, w2⟩) f2
  · rw [hr] at hQ
    refine ⟨fun _ => ⟨fun _ => R_X4_readsHold_179 ⟨fun _ => ?_, fun z => absurd (by decide) z⟩, fun z => absurd (by decide) z⟩, fun z => absurd (by decide) z⟩
    exact hQ M2 t2 (fun hb ho => by rw [← Option.some.inj ho]; exact ⟨w1, w2⟩) f2
  · rw [hr] at hQ
    refine ⟨fun z => absurd rfl z, fun _ => ?_⟩
    rw [t2.2.1]
    refine t_isSign (lo := 48) (hi := 57) t2 ht hp (by decide) (by decide) (fun c => ⟨fun _ => ?_, fun z => absurd b1 z⟩) (fun c => ⟨fun z => absurd rfl z, fun _ => ?_⟩)
    · obtain ⟨c1, c2, c3⟩ := sg_t c
      have hd : rdD t (p + 1) 0 9 = (some (ch t (p + 1) - 48), p + 1 + 1) := if_pos c
      rw [hd] at hQ
      obtain ⟨a1, a2⟩ := ht.2 (p + 1) c1
      rw [t2.2.1, nI_clamp (by omega), t2.2.2.2 (p + 1) c1, a1, show nI (ch t (p + 1)) - 48 = nI (ch t (p + 1) - 48) from nI_sub' (b := 48) (by omega)]
      refine ⟨vp_in_nI (by omega) (by decide), vp_in_nI (by omega) (by decide), fun M8 e8 => ?_⟩
      rw [show up2 M2 82 (4 * f + 2) (nI (ch t (p + 1) - 48)) 73 14 = nI (p + 1) from t2.w82.2.1, nI_1] at e8
      refine ⟨fun _ => R_X4_readsHold_179 ⟨fun _ => ?_, fun z => absurd (by decide) z⟩, fun z => absurd (by decide) z⟩
      refine hQ M8 (by rw [e8]; exact t2.w82.at) (fun hb ho => ?_) (by rw [e8]; exact (f2.p82 (by omega)).p73 (Or.inl rfl))
      rw [← Option.some.inj ho, e8, up2_ne _ _ _ (by decide)]
      refine ⟨?_, by simp [up2]⟩
      unfold up2; rw [if_neg (by omega)]; exact w1
    · have hd : rdD t (p + 1) 0 9 = (none, p + 1) := if_neg (fun y => by rw [c] at y; cases y)
      rw [hd] at hQ
      exact hQ M2 t2 (fun hb ho => by cases ho) f2
  · rw [hr] at hQ
    refine ⟨fun _ => ⟨fun z => absurd rfl z, fun _ => tm_readNumber (b := 4 * f + 1) t2 ht hp (fun M5 t5 f5 e5 => ⟨vp_in_nI (by omega) (by decide), R_X4_readsHold_179 ⟨fun z => absurd rfl z, fun _ => ?_⟩⟩)⟩, fun z => absurd (by decide) z⟩
    rw [show nI (4 * f) + 2 = nI (4 * f + 2) from lit _ 2, nI_clamp (by omega), show up2 M5 82 (4 * f + 2) (oN (rdN t (p + 1)).1) 82 (4 * f + 2) = oN (rdN t (p + 1)).1 by simp [up2]]
    refine ⟨vp_in_nI (by omega) (by decide), fun z => ?_, fun z => ?_⟩
    · cases hk : (rdN t (p + 1)).1 with
      | some k =>
        rw [hk] at z
        have := (rdN_v hp hk).1
        exact absurd z (nI_pos (by omega))
      | none =>
        rw [hk] at hQ
        exact hQ _ t5.w82 (fun hb ho => by cases ho) ((f2.tr f5).p82 (by omega))
    · cases hk : (rdN t (p + 1)).1 with
      | none => rw [hk] at z; exact absurd (by decide) z
      | some k =>
        rw [hk] at hQ
        refine hQ _ t5.w82 (fun hb ho => ?_) ((f2.tr f5).p82 (by omega))
        rw [← Option.some.inj ho]
        refine ⟨?_, by simp [up2, oN]⟩
        unfold up2; rw [if_neg (by omega), e5]; exact w1
theorem tm_readHold (hT : MTt M t p f) (ht : txOk t) (hp : p ≤ t.1) (hf : f < 21) (hQ : ∀ M1, MTt M1 t (rdH t p).2 f → (∀ hb, (rdH t p).1 = some hb → M1 82 (4 * f + 1) = hb.1 ∧ M1 82 (4 * f + 2) = hb.2) → FrQ (4 * f + 1) M M1 → Q (b2i (rdH t p).1.isSome) M1 h D) : CI (d + 3) nX4_readsHold [.ref 73, .int (nI (4 * f))] M h D Q := by
  have hL := ht.1
  have neg : ∀ s0 : Int32, rdH t p = (none, p) → EvI (d + 2) nX4_readsHold 74 [(0, .ref 73), (1, .int (nI (4 * f))), (2, .int s0)] [.int (-1), .int (nI (4 * f + 1)), .ref 82] M h D Q := by
    intro s0 hr
    rw [hr] at hQ
    refine R_X4_readsHold_74 ?_
    rw [show nI (4 * f) + 1 = nI (4 * f + 1) from nI_1 _, show nI (4 * f) + 2 = nI (4 * f + 2) from lit _ 2, nI_clamp (by omega), nI_clamp (by omega)]
    have e1 : up2 (up2 M 82 (4 * f + 1) (-1)) 82 (4 * f + 2) (-5) 82 (4 * f + 1) = -1 := by
      unfold up2; rw [if_neg (by omega), if_pos ⟨rfl, rfl⟩]
    rw [e1]
    refine ⟨vp_in_nI (by omega) (by decide), vp_in_nI (by omega) (by decide), vp_in_nI (by omega) (by decide), fun z => absurd z (by decide), fun _ => ?_⟩
    exact hQ _ hT.w82.w82 (fun hb ho => by cases ho) (((FrQ.refl _ M).p82 (Nat.le_refl _)).p82 (by omega))
  have k25 : ∀ s0 : Int32, (∀ c : Nat, c < 200 → (s0 = nI c ↔ sg t p c c = true)) → (s0 = 104 ∨ s0 = 115 ∨ s0 = 107 ∨ s0 = 108 → p < t.1) → EvI (d + 2) nX4_readsHold 25 [(0, .ref 73), (1, .int (nI (4 * f)))] [.int s0] M h D Q := by
    intro s0 hs hlt
    have g104 := hs 104 (by decide)
    have g107 := hs 107 (by decide)
    have g108 := hs 108 (by decide)
    have g115 := hs 115 (by decide)
    refine R_X4_readsHold_25 ?_
    rw [show nI (4 * f) + 1 = nI (4 * f + 1) from nI_1 _]
    refine nn_if (fun c1 => nn_if (fun c2 => nn_if (fun c3 => nn_if (fun c4 => neg s0 ?_) (fun c4 => ?_)) (fun c3 => ?_)) (fun c2 => ?_)) (fun c1 => ?_)
    · unfold rdH
      rw [if_neg (fun z => c1 (g104.mpr z)), if_neg (fun z => c4 (g115.mpr z)), if_neg (fun z => c2 (g107.mpr z)), if_neg (fun z => c3 (g108.mpr z))]
    · refine l_hold hT ht (hlt (Or.inr (Or.inl c4))) hf (Or.inr (Or.inl ⟨c4, rfl, ?_⟩)) hQ
      unfold rdH
      rw [if_neg (fun z => c1 (g104.mpr z)), if_pos (g115.mp c4)]
    · refine l_hold hT ht (hlt (Or.inr (Or.inr (Or.inr c3)))) hf (Or.inr (Or.inr (Or.inr ⟨c3, rfl, ?_⟩))) hQ
      unfold rdH
      rw [if_neg (fun z => c1 (g104.mpr z)), if_neg (fun z => by have := g115.mpr z; rw [c3] at this; exact absurd this (by decide)), if_neg (fun z => c2 (g107.mpr z)), if_pos (g108.mp c3)]
    · refine l_hold hT ht (hlt (Or.inr (Or.inr (Or.inl c2)))) hf (Or.inr (Or.inr (Or.inl ⟨c2, rfl, ?_⟩))) hQ
      unfold rdH
      rw [if_neg (fun z => c1 (g104.mpr z)), if_neg (fun z => by have := g115.mpr z; rw [c2] at this; exact absurd this (by decide)), if_pos (g107.mp c2)]
    · refine l_hold hT ht (hlt (Or.inl c1)) hf (Or.inl ⟨c1, rfl, ?_⟩) hQ
      unfold rdH
      rw [if_pos (g104.mp c1)]
  refine ci_of rfl rfl (R_X4_readsHold_0 ?_)
  rw [hT.1, hT.2.1]
  refine ⟨fun z => ?_, fun z => ?_⟩
  · have hge := (nI_leI (by omega) (by omega)).mp z
    have hn : ∀ c : Nat, sg t p c c = true → False := fun c y => by have := (sg_t y).1; omega
    refine R_X4_readsHold_25 ⟨fun _ => ⟨fun _ => ⟨fun _ => ⟨fun _ => ?_, fun y => absurd (by decide) y⟩, fun y => absurd (by decide) y⟩, fun y => absurd (by decide) y⟩, fun y => absurd (by decide) y⟩
    rw [show nI (4 * f) + 1 = nI (4 * f + 1) from nI_1 _]
    refine neg 32 ?_
    unfold rdH
    rw [if_neg (fun y => hn _ y), if_neg (fun y => hn _ y), if_neg (fun y => hn _ y), if_neg (fun y => hn _ y)]
  · have hlt : p < t.1 := by
      rcases Nat.lt_or_ge p t.1 with y | y
      · exact y
      · exact absurd ((nI_leI (by omega) (by omega)).mpr y) z
    obtain ⟨c1, c2⟩ := ht.2 p hlt
    rw [nI_clamp (by omega), hT.2.2.2 p hlt, c1]
    refine ⟨vp_in_nI (by omega) (by decide), k25 _ (fun c hc => ⟨fun y => ?_, fun y => ?_⟩) (fun _ => hlt)⟩
    · have := nI_inj' (by omega) (by omega) y
      exact decide_eq_true ⟨hlt, by omega, by omega⟩
    · have := sg_t y
      rw [show ch t p = c by omega]
end MP

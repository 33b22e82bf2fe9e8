/-! THE MODEL: the marks of openings, liftings, takings -/
def FrN (M M1 : Im) : Prop := ∀ c, c ≠ 78 → c ≠ 79 → M1 c = M c
theorem FrN.refl (M : Im) : FrN M M := fun _ _ _ => rfl
theorem FrN.tr {M M1 M2 : Im} (h1 : FrN M M1) (h2 : FrN M1 M2) : FrN M M2 := fun c a b => (h2 c a b).trans (h1 c a b)
theorem FrN.k {M M1 : Im} (h : FrN M M1) : FrK M M1 := fun c a b _ _ => h c a b
theorem Fr78.n {M M1 : Im} (h : Fr78 M M1) : FrN M M1 := fun c a _ => h c a
theorem BM_fr {M M1 : Im} {c : Nat} {B : Nat → Prop} (h : BM M c B) (hF : M1 c = M c) : BM M1 c B := fun k hk => by rw [hF]; exact h k hk
theorem MTx_fr {M M1 : Im} {S : Nat → Nat → Prop} (h : MTx M S) (hF : M1 78 = M 78) : MTx M1 S := fun i j hi hj => by rw [hF]; exact h i j hi hj
section MK2
variable {d n k s t : Nat} {M : Im} {h : Hm} {D : Dm} {e : V} {Q : Im → Hm → Dm → Prop} {S : Nat → Nat → Prop} {B : Nat → Prop}
theorem t_markOpening (hC : CX M e) (hw : wf n e) (hk : k < n) (hcl : clo e k) (hM : MTx M S) (hB : BM M 79 B) (hQ : ∀ M1, MTx M1 (fun i j => S i j ∨ (i = k ∧ ndO n e k j)) → BM M1 79 (fun i => B i ∨ (i = k ∧ BAD n e k)) → FrN M M1 → Q M1 h D) : CV (d + 4) nX4_markOpening [.ref 73, .int (nI k)] M h D Q := by
  have hn := hw.n16
  have hk16 : k < 16 := by omega
  have k53 : ∀ (M1 : Im), MTx M1 (fun i j => S i j ∨ (i = k ∧ ((UP e k j ∧ clo e j) ∨ (fd e k 1 = 1 ∧ ft e (byN e k) 2 = 0 ∧ j = 16 + byN e k)))) → Fr78 M M1 → EvV (d + 3) nX4_markOpening 53 [(0, .ref 73), (1, .int (nI k)), (2, .int (fd e k 1)), (3, .int (fd e k 2))] [] M1 h D Q := by
    intro M1 m1 f1
    have hC1 := hC.fr f1.k
    have hB1 : BM M1 79 B := BM_fr hB (f1 79 (by decide))
    refine R_X4_markOpening_53 (nn_if (fun c => R_X4_markOpening_78 ⟨fun _ => ?_, fun z => absurd c z⟩) (fun c => ⟨vpl (by decide), ?_⟩))
    · refine hQ M1 (MTx_w m1 (fun i j _ _ => or_congr Iff.rfl (and_congr Iff.rfl ⟨fun z => ⟨hk, hcl, z.imp id Or.inl⟩, fun z => z.2.2.imp id (fun y => y.resolve_right (fun y => c y.1))⟩))) (BM_w hB1 (fun i _ => ⟨Or.inl, fun z => z.resolve_right (fun y => c y.2.2.2.1)⟩)) f1.n
    · obtain ⟨jb, hj, ej⟩ := (hw.by' k hk).2 c
      have hby : byN e k = jb := by unfold byN; rw [ej, nI_clamp (by omega)]
      rw [z_clamp, hC1.n hw, ej]
      refine ⟨fun c2 => ?_, fun c2 => ?_⟩
      · have hjn : jb < n := (nI_ltI (by omega) (by omega)).mp c2
        have hB2 : BM M1 79 (fun i => B i ∨ (i = k ∧ BAD n e k)) := BM_w hB1 (fun i _ => ⟨Or.inl, fun z => z.resolve_right (fun y => by have := y.2.2.2.2; omega)⟩)
        refine R_X4_markOpening_78 (nn_if (fun z => absurd c z) (fun _ => t_isClosed hC1 (by omega) (b2i_if (fun c3 => ?_) (fun c3 => t_mark (by omega) (by omega) m1 (fun M2 m2 f2 => ?_)))))
        · refine hQ M1 (MTx_w m1 (fun i j _ _ => or_congr Iff.rfl (and_congr Iff.rfl ⟨fun z => ⟨hk, hcl, z.imp id Or.inl⟩, fun z => z.2.2.imp id (fun y => y.resolve_right (fun y => ?_))⟩))) hB2 f1.n
          have := y.2.2.1
          rw [hby] at this
          exact absurd ((clo_b c3).mpr this) (by decide)
        · refine hQ M2 (MTx_w m2 (fun i j _ _ => ?_)) (BM_fr hB2 (f2 79 (by decide))) (f1.tr f2).n
          constructor
          · rintro ((z | ⟨z1, z2⟩) | ⟨z1, z2⟩)
            · exact Or.inl z
            · exact Or.inr ⟨z1, hk, hcl, z2.imp id Or.inl⟩
            · exact Or.inr ⟨z1, hk, hcl, Or.inr (Or.inr ⟨c, by omega, by rw [hby]; exact (clo_b c3).mp rfl, by omega⟩)⟩
          · rintro (z | ⟨z1, -, -, z2⟩)
            · exact Or.inl (Or.inl z)
            · rcases z2 with z2 | z2 | ⟨y1, y2, y3, y4⟩
              · exact Or.inl (Or.inr ⟨z1, Or.inl z2⟩)
              · exact Or.inl (Or.inr ⟨z1, Or.inr z2⟩)
              · exact Or.inr ⟨z1, by omega⟩
      · have hjn : n ≤ jb := by
          rcases Nat.lt_or_ge jb n with z | z
          · exact absurd ((nI_ltI (by omega) (by omega)).mpr z) c2
          · exact z
        rw [kcl hk16, show (1 : Int32) &&& 1 = 1 by decide]
        refine ⟨kvp (by omega) (by decide), hQ _ (MTx_fr (MTx_w m1 (fun i j _ _ => or_congr Iff.rfl (and_congr Iff.rfl ⟨fun z => ⟨hk, hcl, z.imp id Or.inl⟩, fun z => z.2.2.imp id (fun y => y.resolve_right (fun y => by have := y.2.1; omega))⟩))) (up2_ne _ _ _ (by decide))) (BM_w (BM_put hB1 k) (fun i _ => or_congr Iff.rfl ⟨fun z => ⟨z, hk, hcl, c, by omega⟩, fun z => z.1⟩)) (fun c a b => by rw [up2_ne _ _ _ b]; exact f1 c a)⟩
  refine cv_of rfl rfl (R_X4_markOpening_0 (t_d ⟨dvp hk16 (by decide), t_d ⟨dvp hk16 (by decide), ?_⟩⟩))
  rw [dcl hk16 (by decide), dcl hk16 (by decide), hC.d hk16 (by decide), hC.d hk16 (by decide)]
  refine t_markReach hC hw (by omega) hk (Or.inl rfl) hM (fun M1 m1 f1 => nn_if (fun c => k53 M1 (MTx_w m1 (fun i j _ _ => or_congr Iff.rfl (and_congr Iff.rfl ⟨fun z => Or.inl ⟨z.1.resolve_right (fun y => absurd y.1 (by decide)), z.2⟩, fun z => z.elim (fun z => ⟨Or.inl z.1, z.2⟩) (fun z => absurd z.1 c)⟩))) f1) (fun c => ?_))
  have hC1 := hC.fr f1.k
  obtain ⟨jb, hj, ej⟩ := (hw.by' k hk).1 c
  have hby : byN e k = jb := by unfold byN; rw [ej, nI_clamp (by omega)]
  have h53 := k53
  rw [ej] at h53 ⊢
  refine t_isHand hC1 (by omega) (b2i_ifn (fun c2 => h53 M1 (MTx_w m1 (fun i j _ _ => or_congr Iff.rfl (and_congr Iff.rfl ⟨fun z => Or.inl ⟨z.1.resolve_right (fun y => absurd y.1 (by decide)), z.2⟩, fun z => z.elim (fun z => ⟨Or.inl z.1, z.2⟩) (fun z => ?_)⟩))) f1) (fun c2 => ?_))
  · have h1 : ft e jb 2 = 1 := by simpa using c2
    have h2 := z.2.1
    rw [hby, h1] at h2
    exact absurd h2 (by decide)
  · have h1 : ft e jb 2 = 0 := (hw.zo.2 jb (by omega)).resolve_right (by simpa using c2)
    rw [show (16 : Int32) + nI jb = nI (16 + jb) from nI_add 16 jb]
    refine t_mark (by omega) (by omega) m1 (fun M2 m2 f2 => h53 M2 (MTx_w m2 (fun i j _ _ => ?_)) (f1.tr f2))
    constructor
    · rintro ((z | ⟨z1, z2, z3⟩) | ⟨z1, z2⟩)
      · exact Or.inl z
      · exact Or.inr ⟨z1, Or.inl ⟨z2.resolve_right (fun y => absurd y.1 (by decide)), z3⟩⟩
      · exact Or.inr ⟨z1, Or.inr ⟨c, by rw [hby]; exact h1, by omega⟩⟩
    · rintro (z | ⟨z1, z2⟩)
      · exact Or.inl (Or.inl z)
      · rcases z2 with z2 | ⟨y1, y2, y3⟩
        · exact Or.inl (Or.inr ⟨z1, Or.inl z2.1, z2.2⟩)
        · exact Or.inr ⟨z1, by omega⟩
/-- the bottoms above a bottom -/
theorem l_above {i : Nat} {T : Im → Prop} (hk : k < 16) (hi : i < 3) (hlf : lfN e k ≤ i) (h6 : ∀ M1, MTx M1 (fun a j => S a j ∨ (a = 28 + 3 * k + i ∧ ∃ i2, lfN e k ≤ i2 ∧ i2 < i ∧ j = 28 + 3 * k + i2)) → T M1 → EvV (d + 3) nX4_markLiftings 6 [(0, .ref 73), (1, .int (nI k)), (2, .int (nI (i + 1)))] [] M1 h D Q) (hT : ∀ M1 M2, T M1 → Fr78 M1 M2 → T M2) : ∀ (m b : Nat) (M : Im), b + m = i → lfN e k ≤ b → T M → MTx M (fun a j => S a j ∨ (a = 28 + 3 * k + i ∧ ∃ i2, lfN e k ≤ i2 ∧ i2 < b ∧ j = 28 + 3 * k + i2)) → EvV (d + 3) nX4_markLiftings 60 [(0, .ref 73), (1, .int (nI k)), (2, .int (nI i)), (3, .int (nI (28 + 3 * k + i))), (4, .int (nI b))] [] M h D Q
  | 0, b, M, hb, hl, hTM, hM => by
    obtain rfl : b = i := by omega
    refine R_X4_markLiftings_60 ⟨fun _ => ?_, fun c => absurd ((nI_leI (by omega) (by omega)).mpr (Nat.le_refl _)) c⟩
    rw [nI_1]
    exact h6 M hM hTM
  | m + 1, b, M, hb, hl, hTM, hM => by
    refine R_X4_markLiftings_60 ⟨fun c => absurd ((nI_leI (by omega) (by omega)).mp c) (by omega), fun _ => ?_⟩
    rw [mul3, nI_1]
    refine t_mark (by omega) (by omega) hM (fun M1 m1 f1 => l_above hk hi hlf h6 hT m (b + 1) M1 (by omega) (by omega) (hT _ _ hTM f1) (MTx_w m1 (fun a j _ _ => ?_)))
    constructor
    · rintro ((z | ⟨z1, i2, y1, y2, y3⟩) | ⟨z1, z2⟩)
      · exact Or.inl z
      · exact Or.inr ⟨z1, i2, y1, by omega, y3⟩
      · exact Or.inr ⟨z1, b, hl, by omega, z2⟩
    · rintro (z | ⟨z1, i2, y1, y2, y3⟩)
      · exact Or.inl (Or.inl z)
      · by_cases w : i2 = b
        · exact Or.inr ⟨z1, by rw [y3, w]⟩
        · exact Or.inl (Or.inr ⟨z1, i2, y1, by omega, y3⟩)
theorem l_lifts {M0 : Im} (hw : wf n e) (hk : k < n) (hC0 : CX M0 e) (hQ : ∀ M1, MTx M1 (fun i j => S i j ∨ ∃ b, i = 28 + 3 * k + b ∧ ndL n e k b j) → Fr78 M0 M1 → Q M1 h D) : ∀ (m i : Nat) (M : Im), i + m = 3 → lfN e k ≤ i → i ≤ bmN e k → Fr78 M0 M → MTx M (fun a j => S a j ∨ ∃ b, b < i ∧ a = 28 + 3 * k + b ∧ ndL n e k b j) → EvV (d + 3) nX4_markLiftings 6 [(0, .ref 73), (1, .int (nI k)), (2, .int (nI i))] [] M h D Q := by
  have hn := hw.n16
  have hk16 : k < 16 := by omega
  obtain ⟨bb, hbb, b1', b2⟩ := wf_bm hw hk16
  have fin : ∀ (i : Nat) (M : Im), i = bmN e k → Fr78 M0 M → MTx M (fun a j => S a j ∨ ∃ b, b < i ∧ a = 28 + 3 * k + b ∧ ndL n e k b j) → EvV (d + 3) nX4_markLiftings 6 [(0, .ref 73), (1, .int (nI k)), (2, .int (nI i))] [] M h D Q := by
    intro i M hi hF hM
    refine R_X4_markLiftings_6 (t_d ⟨dvp hk16 (by decide), ?_⟩)
    rw [dcl hk16 (by decide), (hC0.fr hF.k).d hk16 (by decide), b1']
    refine ⟨fun _ => hQ M (MTx_w hM (fun a j _ _ => or_congr Iff.rfl ⟨fun ⟨b, _, z⟩ => ⟨b, z⟩, fun ⟨b, z1, z2⟩ => ⟨b, ?_, z1, z2⟩⟩)) hF, fun c => absurd ((nI_leI (by omega) (by omega)).mpr (by omega)) c⟩
    have := z2.2.2.1
    omega
  intro m
  induction m with
  | zero =>
    intro i M hi hl hle hF hM
    exact fin i M (by omega) hF hM
  | succ m ih =>
    intro i M hi hl hle hF hM
    by_cases hib : i = bmN e k
    · exact fin i M hib hF hM
    · have hC := hC0.fr hF.k
      have hi3 : i < 3 := by omega
      refine R_X4_markLiftings_6 (t_d ⟨dvp hk16 (by decide), ?_⟩)
      rw [dcl hk16 (by decide), hC.d hk16 (by decide), b1', mul3]
      have k60 : ∀ M1, MTx M1 (fun a j => (S a j ∨ ∃ b, b < i ∧ a = 28 + 3 * k + b ∧ ndL n e k b j) ∨ (a = 28 + 3 * k + i ∧ (way e k j ∨ (ft e 10 2 = 0 ∧ j = 26)))) → Fr78 M0 M1 → CI (d + 3) nX4_liftedOf [.ref 73, .int (nI k)] M1 h D (fun x6 M6 h6 D6 => EvV (d + 3) nX4_markLiftings 60 [(0, .ref 73), (1, .int (nI k)), (2, .int (nI i)), (3, .int (nI (28 + 3 * k + i))), (4, .int x6)] [] M6 h6 D6 Q) := by
        intro M1 m1 f1
        refine t_liftedOf (hC0.fr f1.k) hk16 ?_
        rw [(wf_lf hw hk16).1]
        refine l_above (e := e) (S := fun a j => (S a j ∨ ∃ b, b < i ∧ a = 28 + 3 * k + b ∧ ndL n e k b j) ∨ (a = 28 + 3 * k + i ∧ (way e k j ∨ (ft e 10 2 = 0 ∧ j = 26)))) (T := Fr78 M0) hk16 hi3 hl (fun M2 m2 f2 => ih (i + 1) M2 (by omega) (by omega) (by omega) f2 (MTx_w m2 (fun a j _ _ => ?_))) (fun M1 M2 a b => a.tr b) (i - lfN e k) (lfN e k) M1 (by omega) (Nat.le_refl _) f1 (MTx_w m1 (fun a j _ _ => ⟨Or.inl, fun z => z.resolve_right (fun ⟨_, i2, y1, y2, _⟩ => absurd y2 (by omega))⟩))
        constructor
        · rintro (((z | ⟨b, z1, z2⟩) | ⟨z1, z2⟩) | ⟨z1, z2⟩)
          · exact Or.inl z
          · exact Or.inr ⟨b, by omega, z2⟩
          · exact Or.inr ⟨i, by omega, z1, hk, hl, by omega, z2.imp id Or.inl⟩
          · exact Or.inr ⟨i, by omega, z1, hk, hl, by omega, Or.inr (Or.inr z2)⟩
        · rintro (z | ⟨b, z1, z2, z3⟩)
          · exact Or.inl (Or.inl (Or.inl z))
          · by_cases w : b = i
            · rw [w] at z2 z3
              rcases z3.2.2.2 with y | y | y
              · exact Or.inl (Or.inr ⟨z2, Or.inl y⟩)
              · exact Or.inl (Or.inr ⟨z2, Or.inr y⟩)
              · exact Or.inr ⟨z2, y⟩
            · exact Or.inl (Or.inl (Or.inr ⟨b, by omega, z2, z3⟩))
      refine ⟨fun c => absurd ((nI_leI (by omega) (by omega)).mp c) (by omega), fun _ => t_markReach hC hw (by omega) hk (Or.inr rfl) hM (fun M1 m1 f1 => t_isHand (t := 10) (hC.fr f1.k) (by decide) (b2i_ifn (fun c2 => k60 M1 (MTx_w m1 (fun a j _ _ => ?_)) (hF.tr f1)) (fun c2 => t_mark (t := 26) (by omega) (by decide) m1 (fun M2 m2 f2 => k60 M2 (MTx_w m2 (fun a j _ _ => ?_)) ((hF.tr f1).tr f2)))))⟩
      · refine or_congr Iff.rfl (and_congr Iff.rfl ⟨fun z => Or.inl ⟨z.1.imp id (fun y => y.2), z.2⟩, fun z => ?_⟩)
        rcases z with z | z
        · exact ⟨z.1.imp id (fun y => ⟨rfl, y⟩), z.2⟩
        · rw [show ft e 10 2 = 1 by simpa using c2] at z; exact absurd z.1 (by decide)
      · have h1 : ft e 10 2 = 0 := (hw.zo.2 10 (by decide)).resolve_right (by simpa using c2)
        constructor
        · rintro ((z | ⟨z1, z2, z3⟩) | ⟨z1, z2⟩)
          · exact Or.inl z
          · exact Or.inr ⟨z1, Or.inl ⟨z2.imp id (fun y => y.2), z3⟩⟩
          · exact Or.inr ⟨z1, Or.inr ⟨h1, z2⟩⟩
        · rintro (z | ⟨z1, z2⟩)
          · exact Or.inl (Or.inl z)
          · rcases z2 with z2 | z2
            · exact Or.inl (Or.inr ⟨z1, z2.1.imp id (fun y => ⟨rfl, y⟩), z2.2⟩)
            · exact Or.inr ⟨z1, z2.2⟩
theorem t_markLiftings (hC : CX M e) (hw : wf n e) (hk : k < n) (hM : MTx M S) (hQ : ∀ M1, MTx M1 (fun i j => S i j ∨ ∃ b, i = 28 + 3 * k + b ∧ ndL n e k b j) → Fr78 M M1 → Q M1 h D) : CV (d + 4) nX4_markLiftings [.ref 73, .int (nI k)] M h D Q := by
  have hk16 : k < 16 := by have := hw.n16; omega
  refine cv_of rfl rfl (R_X4_markLiftings_0 (t_liftedOf hC hk16 ?_))
  have h3 := lf3 hw hk16
  rw [(wf_lf hw hk16).1]
  exact l_lifts hw hk hC hQ (3 - lfN e k) (lfN e k) M (by omega) (Nat.le_refl _) (wf_lf hw hk16).2 (Fr78.refl M) (MTx_w hM (fun a j _ _ => ⟨Or.inl, fun z => z.resolve_right (fun ⟨b, y1, _, y3⟩ => by have := y3.2.1; omega)⟩))
theorem l_take {p : Nat} (hw : wf n e) (ht : t < 12) (hp : p < 16) (hd3 : ft e t 1 = nI (dpN e t)) (hd : dpN e t ≤ 3) (hQ : ∀ M1, MTx M1 (fun i j => S i j ∨ (i = 16 + t ∧ ∃ b, lfN e p ≤ b ∧ b < dpN e t ∧ j = 28 + 3 * p + b)) → Fr78 M M1 → Q M1 h D) (hC : CX M e) : ∀ (m i : Nat) (M1 : Im), i + m = 3 → lfN e p ≤ i → Fr78 M M1 → MTx M1 (fun a j => S a j ∨ (a = 16 + t ∧ ∃ b, lfN e p ≤ b ∧ b < i ∧ b < dpN e t ∧ j = 28 + 3 * p + b)) → EvV (d + 2) nX4_markTaking 43 [(0, .ref 73), (1, .int (nI t)), (2, .int (nI p)), (3, .int (nI i))] [] M1 h D Q := by
  have fin : ∀ (i : Nat) (M1 : Im), i < 4 → dpN e t ≤ i → Fr78 M M1 → MTx M1 (fun a j => S a j ∨ (a = 16 + t ∧ ∃ b, lfN e p ≤ b ∧ b < i ∧ b < dpN e t ∧ j = 28 + 3 * p + b)) → EvV (d + 2) nX4_markTaking 43 [(0, .ref 73), (1, .int (nI t)), (2, .int (nI p)), (3, .int (nI i))] [] M1 h D Q := by
    intro i M1 hi4 hi hF hM
    refine R_X4_markTaking_43 (t_t ⟨tvp ht (by decide), ?_⟩)
    rw [tcl ht (by decide), (hC.fr hF.k).tt ht (by decide), hd3]
    exact ⟨fun _ => hQ M1 (MTx_w hM (fun a j _ _ => or_congr Iff.rfl (and_congr Iff.rfl ⟨fun ⟨b, z1, z2, z3⟩ => ⟨b, z1, z3⟩, fun ⟨b, z1, z2, z3⟩ => ⟨b, z1, by omega, z2, z3⟩⟩))) hF, fun c => absurd ((nI_leI (by omega) (by omega)).mpr (by omega)) c⟩
  intro m
  induction m with
  | zero =>
    intro i M1 hi hl hF hM
    exact fin i M1 (by omega) (by omega) hF hM
  | succ m ih =>
    intro i M1 hi hl hF hM
    by_cases hid : dpN e t ≤ i
    · exact fin i M1 (by omega) hid hF hM
    · refine R_X4_markTaking_43 (t_t ⟨tvp ht (by decide), ?_⟩)
      rw [tcl ht (by decide), (hC.fr hF.k).tt ht (by decide), hd3, mul3, nI_1, show (16 : Int32) + nI t = nI (16 + t) from nI_add 16 t]
      refine ⟨fun c => absurd ((nI_leI (by omega) (by omega)).mp c) (by omega), fun _ => t_mark (by omega) (by omega) hM (fun M2 m2 f2 => ih (i + 1) M2 (by omega) (by omega) (hF.tr f2) (MTx_w m2 (fun a j _ _ => ?_)))⟩
      constructor
      · rintro ((z | ⟨z1, b, y1, y2, y3⟩) | ⟨z1, z2⟩)
        · exact Or.inl z
        · exact Or.inr ⟨z1, b, y1, by omega, y3⟩
        · exact Or.inr ⟨z1, i, hl, by omega, by omega, z2⟩
      · rintro (z | ⟨z1, b, y1, y2, y3, y4⟩)
        · exact Or.inl (Or.inl z)
        · by_cases w : b = i
          · exact Or.inr ⟨z1, by omega⟩
          · exact Or.inl (Or.inr ⟨z1, b, y1, by omega, y3, y4⟩)
theorem t_markTaking (hC : CX M e) (hw : wf n e) (ht : t < 12) (hM : MTx M S) (hQ : ∀ M1, MTx M1 (fun i j => S i j ∨ (i = 16 + t ∧ ndT e t j)) → Fr78 M M1 → Q M1 h D) : CV (d + 4) nX4_markTaking [.ref 73, .int (nI t)] M h D Q := by
  have hn := hw.n16
  refine cv_of rfl rfl (R_X4_markTaking_0 (t_t ⟨tvp ht (by decide), ?_⟩))
  rw [tcl ht (by decide), hC.tt ht (by decide)]
  refine ⟨fun c => hQ M (MTx_w hM (fun i j _ _ => ⟨Or.inl, fun z => z.resolve_right (fun y => y.2.2.1 c)⟩)) (Fr78.refl M), fun c => t_isHand hC ht (b2i_if (fun c2 => ?_) (fun c2 => ?_))⟩
  · have h2 : ft e t 2 = 0 := (hw.zo.2 t ht).resolve_right (by simpa using c2)
    obtain ⟨p1, p2, p3, p4, p5⟩ := wf_dp hw ht c
    rw [p2, show (16 : Int32) + nI t = nI (16 + t) from nI_add 16 t]
    refine t_markReach hC hw (by omega) p1 (Or.inr rfl) hM (fun M1 m1 f1 => t_liftedOf (hC.fr f1.k) (by omega) ?_)
    rw [(wf_lf hw (show plN e t < 16 by omega)).1]
    have h3 := lf3 hw (show plN e t < 16 by omega)
    refine l_take (M := M1) hw ht (show plN e t < 16 by omega) p3 p5 (fun M2 m2 f2 => hQ M2 (MTx_w m2 (fun i j _ _ => ?_)) (f1.tr f2)) (hC.fr f1.k) (3 - lfN e (plN e t)) (lfN e (plN e t)) M1 (by omega) (Nat.le_refl _) (Fr78.refl M1) (MTx_w m1 (fun i j _ _ => ⟨Or.inl, fun z => z.resolve_right (fun ⟨_, b, y1, y2, _⟩ => absurd y2 (by omega))⟩))
    constructor
    · rintro ((z | ⟨z1, z2, z3⟩) | ⟨z1, z2⟩)
      · exact Or.inl z
      · exact Or.inr ⟨z1, ht, c, h2, Or.inl ⟨z2.imp id (fun y => y.2), z3⟩⟩
      · exact Or.inr ⟨z1, ht, c, h2, Or.inr z2⟩
    · rintro (z | ⟨z1, -, -, -, z2⟩)
      · exact Or.inl (Or.inl z)
      · rcases z2 with z2 | z2
        · exact Or.inl (Or.inr ⟨z1, z2.1.imp id (fun y => ⟨rfl, y⟩), z2.2⟩)
        · exact Or.inr ⟨z1, z2⟩
  · have h1 : ft e t 2 = 1 := by simpa using c2
    exact hQ M (MTx_w hM (fun i j _ _ => ⟨Or.inl, fun z => z.resolve_right (fun y => by have := y.2.2.2.1; rw [h1] at this; exact absurd this (by decide))⟩)) (Fr78.refl M)
end MK2

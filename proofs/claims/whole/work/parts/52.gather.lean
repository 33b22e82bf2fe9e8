/-! THE MODEL: gather, and what is read off it -/
def Fr81 (M M1 : Im) : Prop := ∀ c, c ≠ 81 → M1 c = M c
theorem Fr81.refl (M : Im) : Fr81 M M := fun _ _ => rfl
theorem Fr81.tr {M M1 M2 : Im} (h1 : Fr81 M M1) (h2 : Fr81 M1 M2) : Fr81 M M2 := fun c hc => (h2 c hc).trans (h1 c hc)
theorem Fr81.k {M M1 : Im} (h : Fr81 M M1) : FrK M M1 := fun c _ _ _ a => h c a
def z81 (M : Im) : Prop := ∀ s, s < 76 → M 81 s = 0 ∨ M 81 s = 1
def s81 (n : Nat) (e : V) (d : Nat) (M : Im) : Prop := ∀ s, s < 76 → M 81 s = 1 → CLO n e d s
def c81 (M : Im) : Nat := nsum (fun s => if M 81 s = 1 then 1 else 0) 76
def r81 (n : Nat) (e : V) (M : Im) (s t : Nat) : Prop := M 81 s = 1 → ND n e s t → M 81 t = 1
def P81 (n : Nat) (e : V) (M0 : Im) (s j : Nat) (v : Int32) (M : Im) : Prop := (v = 0 ∧ M = M0 ∧ (∀ s2, s2 < s → ∀ t, t < 76 → r81 n e M0 s2 t) ∧ ∀ t, t < j → r81 n e M0 s t) ∨ (v = 1 ∧ c81 M0 < c81 M)
section GA
variable {d n k s t dr : Nat} {M M0 : Im} {h : Hm} {D : Dm} {e : V} {Q : Int32 → Im → Hm → Dm → Prop}
theorem c81_up (hz : M 81 k = 0) (hk : k < 76) : c81 (up2 M 81 k 1) = c81 M + 1 := by
  refine nsum_up hk (fun j hj hne => ?_) ?_
  · have e : up2 M 81 k 1 81 j = M 81 j := by simp only [up2]; rw [if_neg (fun y => hne y.2)]
    show (if up2 M 81 k 1 81 j = 1 then 1 else 0) = (if M 81 j = 1 then 1 else 0)
    rw [e]
  · show (if up2 M 81 k 1 81 k = 1 then 1 else 0) = (if M 81 k = 1 then 1 else 0) + 1
    rw [show up2 M 81 k 1 81 k = 1 by simp [up2], if_pos rfl, hz, if_neg (by decide)]
theorem c81_le : c81 M ≤ 76 := by
  have : c81 M ≤ 76 * 1 := nsum_le (fun s _ => by split <;> omega)
  omega
theorem l_row {v1 : Int32} (hM0 : MTx M0 (ND n e)) (hs : s < 76) (hK : ∀ M v, Fr81 M0 M → z81 M → s81 n e dr M → (∀ t, way e dr t → M 81 t = 1) → P81 n e M0 (s + 1) 0 v M → EvI d nX4_gather 148 [(0, .ref 73), (1, .int v1), (2, .int 1), (3, .int v), (4, .int (nI (s + 1)))] [] M h D Q) : ∀ (m j : Nat) (v : Int32) (M : Im), j + m = 76 → Fr81 M0 M → z81 M → s81 n e dr M → (∀ t, way e dr t → M 81 t = 1) → P81 n e M0 s j v M → EvI d nX4_gather 158 [(0, .ref 73), (1, .int v1), (2, .int 1), (3, .int v), (4, .int (nI s)), (5, .int (nI j))] [] M h D Q
  | 0, j, v, M, hj, hF, hz, hc, hw, hP => by
    obtain rfl : j = 76 := by omega
    refine R_X4_gather_158 ⟨fun _ => ?_, fun c => absurd ((nI_leI (a := 76) (by omega) (by omega)).mpr (by omega)) c⟩
    rw [nI_1]
    refine hK M v hF hz hc hw (hP.imp (fun ⟨a, b, c1, c2⟩ => ⟨a, b, fun s2 hs2 t ht => ?_, fun t ht => absurd ht (Nat.not_lt_zero t)⟩) id)
    by_cases y : s2 = s
    · rw [y]; exact c2 t ht
    · exact c1 s2 (by omega) t ht
  | m + 1, j, v, M, hj, hF, hz, hc, hw, hP => by
    have hj76 : j < 76 := by omega
    have hM := MTx_fr hM0 (hF 78 (by decide))
    have nxt : (M 81 s = 1 → ND n e s j → M 81 j = 1) → EvI d nX4_gather 158 [(0, .ref 73), (1, .int v1), (2, .int 1), (3, .int v), (4, .int (nI s)), (5, .int (nI (j + 1)))] [] M h D Q := fun hr => by
      refine l_row hM0 hs hK m (j + 1) v M (by omega) hF hz hc hw (hP.imp (fun ⟨a, b, c1, c2⟩ => ⟨a, b, c1, fun t ht => ?_⟩) id)
      by_cases y : t = j
      · rw [y]; unfold r81; rw [← b]; exact hr
      · exact c2 t (by omega)
    refine R_X4_gather_158 ⟨fun c => absurd ((nI_leI (a := 76) (by omega) (by omega)).mp c) (by omega), fun _ => ⟨kvp hs (by decide), ?_⟩⟩
    rw [mulr76, nI_clamp (by omega), nI_clamp (by omega), nI_clamp (by omega), nI_1, nI_1, oand]
    refine ⟨fun c => ?_, fun c => ⟨vp_in_nI (by omega) (by decide), fun c2 => nxt (fun _ hn => ?_), fun c2 => ⟨kvp hj76 (by decide), fun c3 => nxt (fun _ _ => (hz j hj76).resolve_left c3), fun c3 => ⟨kvp hj76 (by decide), ?_⟩⟩⟩⟩
    · have hno : ∀ t, M 81 s = 1 → ND n e s t → M 81 t = 1 := fun t z => by rw [c] at z; exact absurd z (by decide)
      refine hK M v hF hz hc hw (hP.imp (fun ⟨a, b, c1, c2⟩ => ⟨a, b, fun s2 hs2 t ht => ?_, fun t ht => absurd ht (Nat.not_lt_zero t)⟩) id)
      by_cases y : s2 = s
      · rw [y]; unfold r81; rw [← b]; exact hno t
      · exact c1 s2 (by omega) t ht
    · rcases hM s j hs hj76 with y | y
      · exact absurd hn y.2
      · rw [y.1] at c2; exact absurd c2 (by decide)
    · have hn : ND n e s j := by
        rcases hM s j hs hj76 with y | y
        · exact absurd y.1 c2
        · exact y.2
      have h0 : M 81 j = 0 := Classical.not_not.mp c3
      have hcs := hc s hs ((hz s hs).resolve_left c)
      have hne : ∀ t, t ≠ j → up2 M 81 j 1 81 t = M 81 t := fun t y => by simp only [up2]; rw [if_neg (fun w => y w.2)]
      have heq : up2 M 81 j 1 81 j = 1 := by simp [up2]
      refine l_row hM0 hs hK m (j + 1) 1 _ (by omega) (fun c hc => by rw [up2_ne _ _ _ hc]; exact hF c hc) (fun t ht => ?_) (fun t ht h1 => ?_) (fun t ht => ?_) (Or.inr ⟨rfl, ?_⟩)
      · by_cases y : t = j
        · rw [y, heq]; exact Or.inr rfl
        · rw [hne t y]; exact hz t ht
      · by_cases y : t = j
        · rw [y]; exact clo_step hs hj76 hcs hn
        · rw [hne t y] at h1; exact hc t ht h1
      · by_cases y : t = j
        · rw [y]; exact heq
        · rw [hne t y]; exact hw t ht
      · rw [c81_up h0 hj76]
        rcases hP with ⟨-, y, -⟩ | ⟨-, y⟩
        · rw [y]; omega
        · omega
theorem l_pass {v1 : Int32} (hM0 : MTx M0 (ND n e)) (hK : ∀ M v, Fr81 M0 M → z81 M → s81 n e dr M → (∀ t, way e dr t → M 81 t = 1) → P81 n e M0 76 0 v M → EvI d nX4_gather 135 [(0, .ref 73), (1, .int v1), (2, .int 1), (3, .int v)] [] M h D Q) : ∀ (m s : Nat) (v : Int32) (M : Im), s + m = 76 → Fr81 M0 M → z81 M → s81 n e dr M → (∀ t, way e dr t → M 81 t = 1) → P81 n e M0 s 0 v M → EvI d nX4_gather 148 [(0, .ref 73), (1, .int v1), (2, .int 1), (3, .int v), (4, .int (nI s))] [] M h D Q
  | 0, s, v, M, hs, hF, hz, hc, hw, hP => by
    obtain rfl : s = 76 := by omega
    exact R_X4_gather_148 ⟨fun _ => hK M v hF hz hc hw hP, fun c => absurd ((nI_leI (a := 76) (by omega) (by omega)).mpr (by omega)) c⟩
  | m + 1, s, v, M, hs, hF, hz, hc, hw, hP =>
    R_X4_gather_148 ⟨fun c => absurd ((nI_leI (a := 76) (by omega) (by omega)).mp c) (by omega), fun _ => l_row (M0 := M0) (dr := dr) hM0 (by omega) (fun M1 v1' a b c d f => l_pass hM0 hK m (s + 1) v1' M1 (by omega) a b c d f) 76 0 v M rfl hF hz hc hw hP⟩
theorem l_gmore {v1 : Int32} (hw : wf n e) (hdr : dr < n) (hM : MTx M0 (ND n e)) (hQ : ∀ M1, BM M1 81 (CLO n e dr) → Fr81 M0 M1 → Q 1 M1 h D) : ∀ (m c : Nat) (M : Im), 77 ≤ c + m → c ≤ c81 M → Fr81 M0 M → z81 M → s81 n e dr M → (∀ t, way e dr t → M 81 t = 1) → EvI d nX4_gather 135 [(0, .ref 73), (1, .int v1), (2, .int 1), (3, .int 1)] [] M h D Q
  | 0, c, M, hm, hc, hF, hz, hs, hwy => absurd (Nat.le_trans hm hc) (Nat.not_le.mpr (Nat.lt_succ_of_le c81_le))
  | m + 1, c, M, hm, hc, hF, hz, hs, hwy => by
    refine R_X4_gather_135 ⟨fun z => absurd z (by decide), fun _ => ⟨fun z => absurd z (by decide), fun _ => ?_⟩⟩
    refine l_pass (M0 := M) (dr := dr) (MTx_fr hM (hF 78 (by decide))) (fun M1 v f1 z1 s1 w1 p1 => ?_) 76 0 0 M rfl (Fr81.refl M) hz hs hwy (Or.inl ⟨rfl, rfl, fun s hs => absurd hs (Nat.not_lt_zero s), fun s hs => absurd hs (Nat.not_lt_zero s)⟩)
    rcases p1 with ⟨rfl, rfl, hcl, -⟩ | ⟨rfl, hlt⟩
    · refine R_X4_gather_135 ⟨fun _ => ⟨Or.inr rfl, hQ M1 (fun s hs76 => ?_) hF⟩, fun z => absurd rfl z⟩
      rcases hz s hs76 with y | y
      · refine Or.inl ⟨y, fun hcs => ?_⟩
        have hx := hcs (fun s => s < 76 → M1 81 s = 1) (fun t ht _ => hwy t ht) (fun s t hs2 ht hx hn _ => hcl s hs2 t ht (hx hs2) hn) hs76
        rw [y] at hx; exact absurd hx (by decide)
      · exact Or.inr ⟨y, hs s hs76 y⟩
    · exact l_gmore hw hdr hM hQ m (c + 1) M1 (by omega) (Nat.lt_of_le_of_lt hc hlt) (hF.tr f1) z1 s1 w1
/-- the seeds: the drawers around -/
def SDS (n : Nat) (e : V) (v : Int32) (T : Nat → Prop) : Prop := (v = 1 ∧ ∀ i, T i → CANS n e i) ∨ (v = 0 ∧ ∃ i, T i ∧ ¬ CANS n e i)
theorem l_seeds {v1 : Int32} (hw : wf n e) (hC : CX M0 e) (hB : BM M0 80 (CANS n e)) (hK : ∀ M v, BM M 81 (way e dr) → SDS n e v (way e dr) → Fr81 M0 M → EvI (d + 2) nX4_gather 135 [(0, .ref 73), (1, .int v1), (2, .int v), (3, .int 1)] [] M h D Q) : ∀ (m : Nat) (x v : Int32) (M : Im) (T : Nat → Prop), (x = -5 ∨ ∃ j, j < n ∧ j < m ∧ x = nI j) → Fr81 M0 M → BM M 81 T → SDS n e v T → (∀ y, way e dr y ↔ (T y ∨ (up e m x y ∧ clo e y))) → EvI (d + 2) nX4_gather 57 [(0, .ref 73), (1, .int v1), (2, .int v), (3, .int x)] [] M h D Q := by
  have fin : ∀ (m : Nat) (x v : Int32) (M : Im) (T : Nat → Prop), x = -5 → Fr81 M0 M → BM M 81 T → SDS n e v T → (∀ y, way e dr y ↔ (T y ∨ (up e m x y ∧ clo e y))) → EvI (d + 2) nX4_gather 57 [(0, .ref 73), (1, .int v1), (2, .int v), (3, .int x)] [] M h D Q := by
    intro m x v M T hx hF hT hv hy
    have hup : ∀ y, way e dr y ↔ T y := fun y => by
      rw [hy y]
      refine ⟨fun z => z.resolve_right (fun w => ?_), Or.inl⟩
      cases m with
      | zero => exact w.1
      | succ m => exact w.1.1 hx
    have hTe : way e dr = T := funext (fun y => propext (hup y))
    exact R_X4_gather_57 ⟨fun _ => hK M v (by rw [hTe]; exact hT) (by rw [hTe]; exact hv) hF, fun c => absurd hx c⟩
  intro m
  induction m with
  | zero =>
    intro x v M T hx hF hT hv hy
    exact fin 0 x v M T (hx.resolve_right (fun ⟨j, _, hj, _⟩ => absurd hj (Nat.not_lt_zero j))) hF hT hv hy
  | succ m ih =>
    intro x v M T hx hF hT hv hy
    by_cases hx5 : x = -5
    · exact fin (m + 1) x v M T hx5 hF hT hv hy
    · obtain ⟨j, hj, hjm, rfl⟩ := hx.resolve_left hx5
      have hn := hw.n16
      have hj16 : j < 16 := by omega
      have hj76 : j < 76 := by omega
      have hnx : fd e j 0 = -5 ∨ ∃ i, i < n ∧ i < m ∧ fd e j 0 = nI i := (hw.out j hj).imp id (fun ⟨i, hi, z⟩ => ⟨i, by omega, by omega, z⟩)
      have hun : ∀ y, up e (m + 1) (nI j) y ↔ (j = y ∨ up e m (fd e j 0) y) := fun y => by
        show (nI j ≠ -5 ∧ ((nI j).toNatClampNeg = y ∨ up e m (fd e (nI j).toNatClampNeg 0) y)) ↔ _
        rw [kcl hj16]
        exact ⟨fun z => z.2, fun z => ⟨hx5, z⟩⟩
      -- the set with j
      have k90 : ∀ s0 : Int32, ((s0 = 1 ∧ (T j ∨ clo e j)) ∨ (s0 = 0 ∧ ¬ T j ∧ ¬ clo e j)) → EvI (d + 2) nX4_gather 90 [(0, .ref 73), (1, .int v1), (2, .int v), (3, .int (nI j))] [.int s0, .int (nI j), .ref 81] M h D Q := by
        intro s0 hs0
        have hT2 : BM (up2 M 81 j (s0 &&& 1)) 81 (fun y => T y ∨ (y = j ∧ clo e j)) := by
          rcases hs0 with ⟨rfl, h1⟩ | ⟨rfl, h1, h2⟩
          · rw [oand]
            refine BM_w (BM_put hT j) (fun i _ => ⟨fun z => z.elim Or.inl (fun z => ?_), fun z => z.imp id (fun z => z.1)⟩)
            rcases h1 with w | w
            · exact Or.inl (by rw [z]; exact w)
            · exact Or.inr ⟨z, w⟩
          · rw [zand]
            have h0 : M 81 j = 0 := by
              rcases hT j hj76 with y | y
              · exact y.1
              · exact absurd y.2 h1
            have : up2 M 81 j 0 81 = M 81 := by
              funext y; simp only [up2]
              by_cases w : y = j
              · rw [if_pos ⟨trivial, w⟩, w, h0]
              · rw [if_neg (fun z => w z.2)]
            intro i hi
            rw [this]
            exact (hT i hi).imp (fun z => ⟨z.1, fun w => w.elim z.2 (fun y => h2 y.2)⟩) (fun z => ⟨z.1, Or.inl z.2⟩)
        have hF2 : Fr81 M0 (up2 M 81 j (s0 &&& 1)) := fun c hc => by rw [up2_ne _ _ _ hc]; exact hF c hc
        have hC2 := hC.fr hF2.k
        have hy2 : ∀ y, way e dr y ↔ ((T y ∨ (y = j ∧ clo e j)) ∨ (up e m (fd e j 0) y ∧ clo e y)) := fun y => by
          rw [hy y]
          constructor
          · rintro (z | ⟨z1, z2⟩)
            · exact Or.inl (Or.inl z)
            · rcases (hun y).mp z1 with w | w
              · exact Or.inl (Or.inr ⟨w.symm, by rw [w]; exact z2⟩)
              · exact Or.inr ⟨w, z2⟩
          · rintro ((z | ⟨z1, z2⟩) | ⟨z1, z2⟩)
            · exact Or.inl z
            · exact Or.inr ⟨(hun y).mpr (Or.inl z1.symm), by rw [z1]; exact z2⟩
            · exact Or.inr ⟨(hun y).mpr (Or.inr z1), z2⟩
        have go : ∀ v2 : Int32, SDS n e v2 (fun y => T y ∨ (y = j ∧ clo e j)) → EvI (d + 2) nX4_gather 57 [(0, .ref 73), (1, .int v1), (2, .int v2), (3, .int (fd e j 0))] [] (up2 M 81 j (s0 &&& 1)) h D Q := fun v2 h2 => ih _ v2 _ _ hnx hF2 hT2 h2 hy2
        refine R_X4_gather_90 ⟨kvp hj76 (by decide), ?_⟩
        rw [nI_clamp (by omega)]
        refine ⟨fun c => t_d ⟨dvp hj16 (by decide), ?_⟩, fun c => t_isClosed hC2 hj16 (b2i_if (fun c2 => R_X4_gather_112 (t_d ⟨dvp hj16 (by decide), ?_⟩)) (fun c2 => ⟨kvp hj76 (by decide), fun c3 => t_d ⟨dvp hj16 (by decide), ?_⟩, fun c3 => R_X4_gather_112 (t_d ⟨dvp hj16 (by decide), ?_⟩)⟩))⟩
        · rw [dcl hj16 (by decide), hC2.d hj16 (by decide)]
          refine go 0 (Or.inr ⟨rfl, ?_⟩)
          rcases hv with ⟨z, -⟩ | ⟨-, i, z1, z2⟩
          · rw [z] at c; exact absurd c (by decide)
          · exact ⟨i, Or.inl z1, z2⟩
        · rw [dcl hj16 (by decide), hC2.d hj16 (by decide)]
          refine go 1 (Or.inl ⟨rfl, fun i z => ?_⟩)
          rcases hv with ⟨-, w⟩ | ⟨w, -⟩
          · rcases z with z | z
            · exact w i z
            · exact absurd ((clo_b c2).mpr z.2) (by decide)
          · exact absurd w c
        · rw [dcl hj16 (by decide), hC2.d hj16 (by decide)]
          refine go 0 (Or.inr ⟨rfl, j, Or.inr ⟨rfl, (clo_b c2).mp rfl⟩, ?_⟩)
          rw [hF2 80 (by decide)] at c3
          rcases hB j hj76 with y | y
          · exact y.2
          · rw [y.1] at c3; exact absurd c3 (by decide)
        · rw [dcl hj16 (by decide), hC2.d hj16 (by decide)]
          rw [hF2 80 (by decide)] at c3
          refine go 1 (Or.inl ⟨rfl, fun i z => ?_⟩)
          rcases hv with ⟨-, w⟩ | ⟨w, -⟩
          · rcases z with z | z
            · exact w i z
            · rw [z.1]
              rcases hB j hj76 with y | y
              · exact absurd y.1 c3
              · exact y.2
          · exact absurd w c
      refine R_X4_gather_57 ⟨fun c => absurd c hx5, fun _ => ⟨kvp hj76 (by decide), ?_⟩⟩
      rw [nI_clamp (by omega)]
      refine nn_if (fun c => k90 1 (Or.inl ⟨rfl, Or.inl ?_⟩)) (fun c => t_isClosed (hC.fr hF.k) hj16 (b2i_if (fun c2 => k90 0 (Or.inr ⟨rfl, ?_, ?_⟩)) (fun c2 => k90 1 (Or.inl ⟨rfl, Or.inr ((clo_b c2).mp rfl)⟩))))
      · rcases hT j hj76 with y | y
        · exact absurd y.1 c
        · exact y.2
      · rcases hT j hj76 with y | y
        · exact y.2
        · rw [y.1] at c; exact absurd c (by decide)
      · exact fun z => absurd ((clo_b c2).mpr z) (by decide)
theorem l_g0 {v1 : Int32} (hK : ∀ M, (∀ j, j < 76 → M 81 j = 0) → Fr81 M0 M → EvI d nX4_gather 4 [(0, .ref 73), (1, .int v1), (2, .int 1), (3, .int 76)] [] M h D Q) : ∀ (m i : Nat) (M : Im), i + m = 76 → (∀ j, j < i → M 81 j = 0) → Fr81 M0 M → EvI d nX4_gather 4 [(0, .ref 73), (1, .int v1), (2, .int 1), (3, .int (nI i))] [] M h D Q
  | 0, i, M, hi, hz, hF => by
    obtain rfl : i = 76 := by omega
    exact hK M hz hF
  | m + 1, i, M, hi, hz, hF => by
    refine R_X4_gather_4 ⟨fun c => absurd ((nI_leI (a := 76) (by omega) (by omega)).mp c) (by omega), fun _ => ⟨kvp (by omega) (by decide), ?_⟩⟩
    rw [nI_clamp (by omega), nI_1, zand]
    refine l_g0 hK m (i + 1) _ (by omega) (fun j hj => ?_) (fun c hc => by rw [up2_ne _ _ _ hc]; exact hF c hc)
    simp only [up2]
    by_cases w : j = i
    · rw [if_pos ⟨trivial, w⟩]
    · rw [if_neg (fun y => w y.2)]; exact hz j (by omega)
theorem t_gather (hw : wf n e) (hk : k < n) (hC : CX M e) (hM : MTx M (ND n e)) (hB : BM M 80 (CANS n e)) (h1 : posB n e k = true → ∀ M1, BM M1 81 (CLO n e k) → Fr81 M M1 → Q 1 M1 h D) (h0 : posB n e k = false → ∀ M1, Fr81 M M1 → Q 0 M1 h D) : CI (d + 3) nX4_gather [.ref 73, .int (nI k)] M h D Q := by
  have hn := hw.n16
  have hk16 : k < 16 := by omega
  have h135 : ∀ M1 v, BM M1 81 (way e k) → SDS n e v (way e k) → Fr81 M M1 → EvI (d + 2) nX4_gather 135 [(0, .ref 73), (1, .int (nI k)), (2, .int v), (3, .int 1)] [] M1 h D Q := by
    intro M1 v b1' hv f1
    rcases hv with ⟨rfl, hv⟩ | ⟨rfl, i, hv1, hv2⟩
    · refine l_gmore (M0 := M) hw hk hM (h1 (dB_t.mpr hv)) 77 0 M1 (by omega) (Nat.zero_le _) f1 (fun s hs => (b1' s hs).imp (fun z => z.1) (fun z => z.1)) (fun s hs z => ?_) (fun t ht => ?_)
      · rcases b1' s hs with y | y
        · rw [y.1] at z; exact absurd z (by decide)
        · exact clo_seed y.2
      · have := way_lt hw.out hn hk ht
        rcases b1' t (by omega) with y | y
        · exact absurd ht y.2
        · exact y.1
    · exact R_X4_gather_135 ⟨fun z => absurd z (by decide), fun _ => ⟨fun _ => ⟨Or.inl rfl, h0 (dB_f.mpr (fun z => hv2 (z i hv1))) M1 f1⟩, fun z => absurd rfl z⟩⟩
  refine ci_of rfl rfl (R_X4_gather_0 (l_g0 (M0 := M) (fun M1 z1 f1 => ?_) 76 0 M rfl (fun j hj => absurd hj (Nat.not_lt_zero j)) (Fr81.refl M)))
  have hC1 := hC.fr f1.k
  have hnx : fd e k 0 = -5 ∨ ∃ j, j < n ∧ j < 16 ∧ fd e k 0 = nI j := (hw.out k hk).imp id (fun ⟨i, hi, z⟩ => ⟨i, by omega, by omega, z⟩)
  have hB1 : BM M1 81 (fun _ => False) := fun j hj => Or.inl ⟨z1 j hj, id⟩
  refine R_X4_gather_4 ⟨fun _ => t_isClosed hC1 hk16 (b2i_if (fun c => t_d ⟨dvp hk16 (by decide), ?_⟩) (fun c => ⟨kvp (by omega) (by decide), kvp (by omega) (by decide), t_d ⟨dvp hk16 (by decide), ?_⟩⟩)), fun c => absurd (by decide) c⟩
  · rw [dcl hk16 (by decide), hC1.d hk16 (by decide)]
    refine l_seeds (M0 := M) (dr := k) hw hC hB h135 16 _ 1 M1 (fun _ => False) hnx f1 hB1 (Or.inl ⟨rfl, fun i z => z.elim⟩) (fun y => ?_)
    constructor
    · rintro ⟨z | z, z2⟩
      · exact Or.inr ⟨z, z2⟩
      · rw [z] at z2; exact absurd ((clo_b c).mpr z2) (by decide)
    · rintro (z | z)
      · exact z.elim
      · exact ⟨Or.inl z.1, z.2⟩
  · have hck := (clo_b c).mp rfl
    rw [kcl hk16, oand]
    have f2 : Fr81 M (up2 M1 81 k 1) := fun c hc => by rw [up2_ne _ _ _ hc]; exact f1 c hc
    have hC2 := hC.fr f2.k
    rw [dcl hk16 (by decide), hC2.d hk16 (by decide), show up2 M1 81 k 1 80 = M 80 from f2 80 (by decide)]
    refine l_seeds (M0 := M) (dr := k) hw hC hB h135 16 _ _ _ (fun y => y = k) hnx f2 (BM_w (BM_put hB1 k) (fun i _ => ⟨fun z => z.resolve_left id, Or.inr⟩)) ?_ (fun y => ?_)
    · rcases hB k (by omega) with y | y
      · exact Or.inr ⟨y.1, k, rfl, y.2⟩
      · exact Or.inl ⟨y.1, fun i z => by rw [z]; exact y.2⟩
    · constructor
      · rintro ⟨z | z, z2⟩
        · exact Or.inr ⟨z, z2⟩
        · exact Or.inl z
      · rintro (z | z)
        · exact ⟨Or.inr z, by rw [z]; exact hck⟩
        · exact ⟨Or.inl z.1, z.2⟩
end GA

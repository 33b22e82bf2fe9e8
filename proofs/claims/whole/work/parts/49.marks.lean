/-! THE MODEL: the square of marks -/
def EF (a e : V) (f : Int32) : Prop := (f = 1 ∧ e = a) ∨ (f = 0 ∧ SAME a e ∧ e 0 = a 0 ∧ (∀ k, k < 16 → fd e k 5 = 0 ∧ fd e k 6 = 0 ∧ fd e k 7 = 0) ∧ ∀ t, t < 12 → ft e t 2 = 0)
def CX (M : Im) (e : V) : Prop := EF (M 74) e (M 73 13)
def Fr78 (M M1 : Im) : Prop := ∀ c, c ≠ 78 → M1 c = M c
def FrK (M M1 : Im) : Prop := ∀ c, c ≠ 78 → c ≠ 79 → c ≠ 80 → c ≠ 81 → M1 c = M c
theorem Fr78.refl (M : Im) : Fr78 M M := fun _ _ => rfl
theorem Fr78.tr {M M1 M2 : Im} (h1 : Fr78 M M1) (h2 : Fr78 M1 M2) : Fr78 M M2 := fun c hc => (h2 c hc).trans (h1 c hc)
theorem FrK.refl (M : Im) : FrK M M := fun _ _ _ _ _ => rfl
theorem FrK.tr {M M1 M2 : Im} (h1 : FrK M M1) (h2 : FrK M1 M2) : FrK M M2 := fun c a b d f => (h2 c a b d f).trans (h1 c a b d f)
theorem Fr78.k {M M1 : Im} (h : Fr78 M M1) : FrK M M1 := fun c a _ _ _ => h c a
theorem CX.fr {M M1 : Im} {e : V} (h : CX M e) (hF : FrK M M1) : CX M1 e := by
  unfold CX; rw [hF 74 (by decide) (by decide) (by decide) (by decide), hF 73 (by decide) (by decide) (by decide) (by decide)]; exact h
section EF
variable {M : Im} {e : V} {k t j : Nat}
theorem CX.d (h : CX M e) (hk : k < 16) (hj : j < 5) : M 74 (40 + 8 * k + j) = fd e k j := by
  rcases h with ⟨-, h⟩ | ⟨-, h, -⟩
  · rw [h]
  · exact (h.1 k j hk hj).symm
theorem CX.tt (h : CX M e) (ht : t < 12) (hj : j < 2) : M 74 (4 + 3 * t + j) = ft e t j := by
  rcases h with ⟨-, h⟩ | ⟨-, h, -⟩
  · rw [h]
  · exact (h.2 t j ht hj).symm
theorem CX.n (h : CX M e) {n : Nat} (hw : wf n e) : M 74 0 = nI n := by
  rcases h with ⟨-, h⟩ | ⟨-, -, h, -⟩
  · rw [← h]; exact hw.a0
  · rw [← h]; exact hw.a0
end EF
section MK
variable {d n k s t : Nat} {M : Im} {h : Hm} {D : Dm} {e : V}
theorem t_isClosed {Q : Int32 → Im → Hm → Dm → Prop} (hC : CX M e) (hk : k < 16) (hQ : Q (b2i (fd e k 6 == 0)) M h D) : CI (d + 2) nX4_isClosed [.ref 73, .int (nI k)] M h D Q := by
  refine ci_of rfl rfl (R_X4_isClosed_0 ?_)
  rcases hC with ⟨h1, h2⟩ | ⟨h1, -, -, h2, -⟩
  · rw [h1]
    refine ⟨fun z => absurd z (by decide), fun _ => t_d ⟨dvp hk (by decide), ?_⟩⟩
    rw [dcl hk (by decide), ← h2]
    refine nn_if (fun c => ?_) (fun c => ?_)
    · rw [show (fd e k 6 == 0) = false by simpa using c] at hQ; exact hQ
    · rw [show (fd e k 6 == 0) = true by simpa using c] at hQ; exact hQ
  · rw [h1]
    rw [(h2 k hk).2.1] at hQ
    exact ⟨fun _ => hQ, fun z => absurd rfl z⟩
theorem t_isHand {Q : Int32 → Im → Hm → Dm → Prop} (hC : CX M e) (ht : t < 12) (hQ : Q (b2i (ft e t 2 == 1)) M h D) : CI (d + 2) nX4_isHand [.ref 73, .int (nI t)] M h D Q := by
  refine ci_of rfl rfl (R_X4_isHand_0 ?_)
  rcases hC with ⟨h1, h2⟩ | ⟨h1, -, -, -, h2⟩
  · rw [h1]
    refine ⟨fun z => absurd z (by decide), fun _ => t_t ⟨tvp ht (by decide), ?_⟩⟩
    rw [tcl ht (by decide), ← h2]
    refine nn_if (fun c => ?_) (fun c => ?_)
    · rw [show (ft e t 2 == 1) = false by simpa using c] at hQ; exact hQ
    · rw [show (ft e t 2 == 1) = true by simpa using c] at hQ; exact hQ
  · rw [h1]
    rw [h2 t ht] at hQ
    exact ⟨fun _ => hQ, fun z => absurd rfl z⟩
theorem t_liftedOf {Q : Int32 → Im → Hm → Dm → Prop} (hC : CX M e) (hk : k < 16) (hQ : Q (fd e k 5) M h D) : CI (d + 2) nX4_liftedOf [.ref 73, .int (nI k)] M h D Q := by
  refine ci_of rfl rfl (R_X4_liftedOf_0 ?_)
  rcases hC with ⟨h1, h2⟩ | ⟨h1, -, -, h2, -⟩
  · rw [h1]
    refine ⟨fun z => absurd z (by decide), fun _ => t_d ⟨dvp hk (by decide), ?_⟩⟩
    rw [dcl hk (by decide), ← h2]; exact hQ
  · rw [h1]
    rw [(h2 k hk).1] at hQ
    exact ⟨fun _ => hQ, fun z => absurd rfl z⟩
theorem mulr76 (p i : Nat) : (76 : Int32) * nI p + nI i = nI (76 * p + i) := by
  have e : (76 : Int32) * nI p = nI (76 * p) := by
    apply Int32.toBitVec_inj.mp
    rw [Int32.toBitVec_mul]
    show BitVec.ofNat 32 76 * BitVec.ofNat 32 p = BitVec.ofNat 32 (76 * p)
    exact (BitVec.ofNat_mul 76 p).symm
  rw [e, nI_add]
theorem mul3 (p i : Nat) : (28 : Int32) + 3 * nI p + nI i = nI (28 + 3 * p + i) := by
  have e : (3 : Int32) * nI p = nI (3 * p) := by
    apply Int32.toBitVec_inj.mp
    rw [Int32.toBitVec_mul]
    show BitVec.ofNat 32 3 * BitVec.ofNat 32 p = BitVec.ofNat 32 (3 * p)
    exact (BitVec.ofNat_mul 3 p).symm
  rw [e, show (28 : Int32) + nI (3 * p) = nI (28 + 3 * p) from nI_add 28 (3 * p), nI_add]
/-- the marks are the pairs of S; the marks of steps that are not possible those of B -/
def MTx (M : Im) (S : Nat → Nat → Prop) : Prop := ∀ i j, i < 76 → j < 76 → (M 78 (76 * i + j) = 0 ∧ ¬ S i j) ∨ (M 78 (76 * i + j) = 1 ∧ S i j)
def BM (M : Im) (c : Nat) (B : Nat → Prop) : Prop := ∀ k, k < 76 → (M c k = 0 ∧ ¬ B k) ∨ (M c k = 1 ∧ B k)
theorem MTx_w {S S1 : Nat → Nat → Prop} (hM : MTx M S) (hS : ∀ i j, i < 76 → j < 76 → (S i j ↔ S1 i j)) : MTx M S1 := fun i j hi hj => by
  rw [← hS i j hi hj]; exact hM i j hi hj
theorem BM_w {c : Nat} {B B1 : Nat → Prop} (hM : BM M c B) (hS : ∀ i, i < 76 → (B i ↔ B1 i)) : BM M c B1 := fun i hi => by
  rw [← hS i hi]; exact hM i hi
theorem BM_put {c : Nat} {B : Nat → Prop} (hM : BM M c B) (k : Nat) : BM (up2 M c k 1) c (fun i => B i ∨ i = k) := fun i hi => by
  simp only [up2]
  by_cases z : i = k
  · rw [if_pos ⟨trivial, z⟩]; exact Or.inr ⟨rfl, Or.inr z⟩
  · rw [if_neg (fun y => z y.2)]
    exact (hM i hi).imp (fun ⟨a, b⟩ => ⟨a, fun y => y.elim b z⟩) (fun ⟨a, b⟩ => ⟨a, Or.inl b⟩)
theorem t_mark {Q : Im → Hm → Dm → Prop} {S : Nat → Nat → Prop} (hs : s < 76) (ht : t < 76) (hM : MTx M S) (hQ : ∀ M1, MTx M1 (fun i j => S i j ∨ (i = s ∧ j = t)) → Fr78 M M1 → Q M1 h D) : CV (d + 1) nX4_mark [.ref 73, .int (nI s), .int (nI t)] M h D Q := by
  refine cv_of rfl rfl (R_X4_mark_0 ?_)
  rw [mulr76, nI_clamp (by omega), show (1 : Int32) &&& 1 = 1 by decide]
  refine ⟨vp_in_nI (by omega) (by decide), hQ _ (fun i j hi hj => ?_) (fun c hc => up2_ne _ _ _ hc)⟩
  simp only [up2]
  by_cases z : i = s ∧ j = t
  · rw [if_pos ⟨trivial, by omega⟩]; exact Or.inr ⟨rfl, Or.inr z⟩
  · rw [if_neg (fun y => z (by omega))]
    exact (hM i j hi hj).imp (fun ⟨a, b⟩ => ⟨a, fun y => y.elim b z⟩) (fun ⟨a, b⟩ => ⟨a, Or.inl b⟩)
theorem clo_b {b : Bool} (hb : (fd e k 6 == 0) = b) : (b = true ↔ clo e k) := by rw [← hb]; exact beq_iff_eq
theorem l_reach {Q : Im → Hm → Dm → Prop} {it : Int32} (hw : wf n e) (hs : s < 76) (hk : k < 16) (hit : it = 0 ∨ it = 1) : ∀ (m : Nat) (x : Int32) (M : Im) (S : Nat → Nat → Prop), CX M e → (x = -5 ∨ ∃ j, j < n ∧ j < m ∧ x = nI j) → MTx M S → (∀ M1, MTx M1 (fun i j => S i j ∨ (i = s ∧ (up e m x j ∨ (it = 1 ∧ j = k)) ∧ clo e j)) → Fr78 M M1 → Q M1 h D) → EvV (d + 2) nX4_markReach 13 [(0, .ref 73), (1, .int (nI s)), (2, .int (nI k)), (3, .int it), (4, .int x)] [] M h D Q := by
  have fin : ∀ (m : Nat) (x : Int32) (M : Im) (S : Nat → Nat → Prop), CX M e → x = -5 → MTx M S → (∀ M1, MTx M1 (fun i j => S i j ∨ (i = s ∧ (up e m x j ∨ (it = 1 ∧ j = k)) ∧ clo e j)) → Fr78 M M1 → Q M1 h D) → EvV (d + 2) nX4_markReach 13 [(0, .ref 73), (1, .int (nI s)), (2, .int (nI k)), (3, .int it), (4, .int x)] [] M h D Q := by
    intro m x M S hC hx hM hQ
    have hup : ∀ j, ¬ up e m x j := fun j z => by
      cases m with
      | zero => exact z
      | succ m => exact z.1 hx
    refine R_X4_markReach_13 ⟨fun _ => ⟨fun c => ?_, fun c => t_isClosed hC hk (b2i_if (fun c2 => ?_) (fun c2 => t_mark hs (by omega) hM (fun M1 m1 f1 => ?_)))⟩, fun c => absurd hx c⟩
    · refine hQ M (MTx_w hM (fun i j _ _ => ⟨Or.inl, fun z => z.elim id (fun ⟨_, z, _⟩ => z.elim (fun y => absurd y (hup j)) (fun y => absurd y.1 (by rw [c]; decide)))⟩)) (Fr78.refl M)
    · refine hQ M (MTx_w hM (fun i j _ _ => ⟨Or.inl, fun z => z.elim id (fun ⟨_, z, y2⟩ => z.elim (fun y => absurd y (hup j)) (fun y => ?_))⟩)) (Fr78.refl M)
      rw [y.2] at y2
      exact absurd ((clo_b c2).mpr y2) (by decide)
    · refine hQ M1 (MTx_w m1 (fun i j _ _ => ⟨fun z => z.imp id (fun ⟨a, b⟩ => ⟨a, Or.inr ⟨hit.resolve_left c, b⟩, ?_⟩), fun z => z.imp id (fun ⟨a, z, _⟩ => ⟨a, z.elim (fun y => absurd y (hup j)) (fun y => y.2)⟩)⟩)) f1
      rw [b]; exact (clo_b c2).mp rfl
  intro m
  induction m with
  | zero =>
    intro x M S hC hx hM hQ
    exact fin 0 x M S hC (hx.resolve_right (fun ⟨j, _, hj, _⟩ => absurd hj (Nat.not_lt_zero j))) hM hQ
  | succ m ih =>
    intro x M S hC hx hM hQ
    by_cases hx5 : x = -5
    · exact fin (m + 1) x M S hC hx5 hM hQ
    · obtain ⟨j, hj, hjm, rfl⟩ := hx.resolve_left hx5
      have hn := hw.n16
      have hj16 : j < 16 := by omega
      have hnx : fd e j 0 = -5 ∨ ∃ i, i < n ∧ i < m ∧ fd e j 0 = nI i := (hw.out j hj).imp id (fun ⟨i, hi, z⟩ => ⟨i, by omega, by omega, z⟩)
      have hun : ∀ y, up e (m + 1) (nI j) y ↔ (j = y ∨ up e m (fd e j 0) y) := fun y => by
        show (nI j ≠ -5 ∧ ((nI j).toNatClampNeg = y ∨ up e m (fd e (nI j).toNatClampNeg 0) y)) ↔ _
        rw [kcl hj16]
        exact ⟨fun z => z.2, fun z => ⟨hx5, z⟩⟩
      refine R_X4_markReach_13 ⟨fun c => absurd c hx5, fun _ => t_isClosed hC hj16 (b2i_if (fun c2 => t_d ⟨dvp hj16 (by decide), ?_⟩) (fun c2 => t_mark hs (by omega) hM (fun M1 m1 f1 => t_d ⟨dvp hj16 (by decide), ?_⟩)))⟩
      · rw [dcl hj16 (by decide), hC.d hj16 (by decide)]
        refine ih _ M S hC hnx hM (fun M2 m2 f2 => hQ M2 (MTx_w m2 (fun i y _ _ => ⟨fun z => z.imp id (fun ⟨a, b, c⟩ => ⟨a, b.imp (fun b => (hun y).mpr (Or.inr b)) id, c⟩), fun z => z.imp id (fun ⟨a, b, c⟩ => ⟨a, b.imp (fun b => ?_) id, c⟩)⟩)) f2)
        rcases (hun y).mp b with z | z
        · rw [← z] at c
          exact absurd ((clo_b c2).mpr c) (by decide)
        · exact z
      · rw [dcl hj16 (by decide), (hC.fr f1.k).d hj16 (by decide)]
        refine ih _ M1 _ (hC.fr f1.k) hnx m1 (fun M2 m2 f2 => hQ M2 (MTx_w m2 (fun i y _ _ => ?_)) (f1.tr f2))
        constructor
        · rintro ((z | ⟨z1, z2⟩) | ⟨a, b, c⟩)
          · exact Or.inl z
          · exact Or.inr ⟨z1, Or.inl ((hun y).mpr (Or.inl z2.symm)), by rw [z2]; exact (clo_b c2).mp rfl⟩
          · exact Or.inr ⟨a, b.imp (fun b => (hun y).mpr (Or.inr b)) id, c⟩
        · rintro (z | ⟨a, b, c⟩)
          · exact Or.inl (Or.inl z)
          · rcases b with b | b
            · rcases (hun y).mp b with z | z
              · exact Or.inl (Or.inr ⟨a, z.symm⟩)
              · exact Or.inr ⟨a, Or.inl z, c⟩
            · exact Or.inr ⟨a, Or.inr b, c⟩
theorem t_markReach {Q : Im → Hm → Dm → Prop} {S : Nat → Nat → Prop} {it : Int32} (hC : CX M e) (hw : wf n e) (hs : s < 76) (hk : k < n) (hit : it = 0 ∨ it = 1) (hM : MTx M S) (hQ : ∀ M1, MTx M1 (fun i j => S i j ∨ (i = s ∧ (UP e k j ∨ (it = 1 ∧ j = k)) ∧ clo e j)) → Fr78 M M1 → Q M1 h D) : CV (d + 3) nX4_markReach [.ref 73, .int (nI s), .int (nI k), .int it] M h D Q := by
  have hn := hw.n16
  refine cv_of rfl rfl (R_X4_markReach_0 (t_d ⟨dvp (by omega) (by decide), ?_⟩))
  rw [dcl (by omega) (by decide), hC.d (by omega) (by decide)]
  exact l_reach hw hs (by omega) hit 16 _ M S hC ((hw.out k hk).imp id (fun ⟨i, hi, z⟩ => ⟨i, by omega, by omega, z⟩)) hM hQ
end MK

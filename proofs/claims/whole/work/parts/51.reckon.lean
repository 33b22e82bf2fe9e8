/-! THE MODEL: reckon: all marks, and the possible steps -/
def Fr80 (M M1 : Im) : Prop := ∀ c, c ≠ 80 → M1 c = M c
theorem Fr80.refl (M : Im) : Fr80 M M := fun _ _ => rfl
theorem Fr80.tr {M M1 M2 : Im} (h1 : Fr80 M M1) (h2 : Fr80 M1 M2) : Fr80 M M2 := fun c hc => (h2 c hc).trans (h1 c hc)
theorem Fr80.k {M M1 : Im} (h : Fr80 M M1) : FrK M M1 := fun c _ _ a _ => h c a
def FrL (M M1 : Im) : Prop := ∀ c, c ≠ 78 → c ≠ 79 → c ≠ 80 → M1 c = M c
theorem FrL.refl (M : Im) : FrL M M := fun _ _ _ _ => rfl
theorem FrL.tr {M M1 M2 : Im} (h1 : FrL M M1) (h2 : FrL M1 M2) : FrL M M2 := fun c a b d => (h2 c a b d).trans (h1 c a b d)
theorem FrL.k {M M1 : Im} (h : FrL M M1) : FrK M M1 := fun c a b d _ => h c a b d
theorem FrN.l {M M1 : Im} (h : FrN M M1) : FrL M M1 := fun c a b _ => h c a b
theorem Fr80.l {M M1 : Im} (h : Fr80 M M1) : FrL M M1 := fun c _ _ a => h c a
def z80 (M : Im) : Prop := ∀ s, s < 76 → M 80 s = 0 ∨ M 80 s = 1
def s80 (n : Nat) (e : V) (M : Im) : Prop := ∀ s, s < 76 → M 80 s = 1 → CANS n e s
def c80 (M : Im) : Nat := nsum (fun s => if M 80 s = 1 then 1 else 0) 76
def st80 (n : Nat) (e : V) (M : Im) (s : Nat) : Prop := M 80 s = 0 → ¬ BAD n e s → ∃ t, t < 76 ∧ ND n e s t ∧ M 80 t = 0
def P80 (n : Nat) (e : V) (M0 : Im) (k : Nat) (v : Int32) (M : Im) : Prop := (v = 0 ∧ M = M0 ∧ ∀ s, s < k → st80 n e M0 s) ∨ (v = 1 ∧ c80 M0 < c80 M)
theorem zand : (0 : Int32) &&& 1 = 0 := by decide
theorem oand : (1 : Int32) &&& 1 = 1 := by decide
section RK
variable {d n k s t : Nat} {M M0 : Im} {h : Hm} {D : Dm} {e : V} {S : Nat → Nat → Prop}
theorem l_areAll {Q : Int32 → Im → Hm → Dm → Prop} (hs : s < 76) (hM : MTx M S) (h1 : (∀ t, t < 76 → S s t → ¬ M 80 t = 0) → Q 1 M h D) (h0 : (∃ t, t < 76 ∧ S s t ∧ M 80 t = 0) → Q 0 M h D) : ∀ (m i : Nat), i + m = 76 → (∀ t, t < i → S s t → ¬ M 80 t = 0) → EvI d nX4_areAll 4 [(0, .ref 73), (1, .int (nI s)), (2, .int 1), (3, .int (nI i))] [] M h D Q
  | 0, i, hi, hx => by
    obtain rfl : i = 76 := by omega
    exact R_X4_areAll_4 ⟨fun _ => ⟨Or.inr rfl, h1 hx⟩, fun c => absurd ((nI_leI (a := 76) (by omega) (by omega)).mpr (by omega)) c⟩
  | m + 1, i, hi, hx => by
    have hi76 : i < 76 := by omega
    refine R_X4_areAll_4 ⟨fun c => absurd ((nI_leI (a := 76) (by omega) (by omega)).mp c) (by omega), fun _ => ⟨fun c => absurd c (by decide), fun _ => ?_⟩⟩
    rw [mulr76, nI_clamp (by omega), nI_clamp (by omega), nI_1]
    refine ⟨vp_in_nI (by omega) (by decide), fun c => ?_, fun c => ⟨vp_in_nI hi76 (by decide), fun c2 => ?_, fun c2 => ?_⟩⟩
    · refine l_areAll hs hM h1 h0 m (i + 1) (by omega) (fun t ht hst => ?_)
      by_cases z : t = i
      · rcases hM s i hs hi76 with y | y
        · rw [z] at hst; exact absurd hst y.2
        · rw [y.1] at c; exact absurd c (by decide)
      · exact hx t (by omega) hst
    · have hst : S s i := by
        rcases hM s i hs hi76 with y | y
        · exact absurd y.1 c
        · exact y.2
      have hf := h0 ⟨i, hi76, hst, c2⟩
      exact R_X4_areAll_4 ⟨fun _ => ⟨Or.inl rfl, hf⟩, fun _ => ⟨fun _ => ⟨Or.inl rfl, hf⟩, fun z => absurd rfl z⟩⟩
    · refine l_areAll hs hM h1 h0 m (i + 1) (by omega) (fun t ht hst => ?_)
      by_cases z : t = i
      · rw [z]; exact c2
      · exact hx t (by omega) hst
theorem t_areAll {Q : Int32 → Im → Hm → Dm → Prop} (hs : s < 76) (hM : MTx M S) (h1 : (∀ t, t < 76 → S s t → ¬ M 80 t = 0) → Q 1 M h D) (h0 : (∃ t, t < 76 ∧ S s t ∧ M 80 t = 0) → Q 0 M h D) : CI (d + 1) nX4_areAll [.ref 73, .int (nI s)] M h D Q :=
  ci_of rfl rfl (R_X4_areAll_0 (l_areAll hs hM h1 h0 76 0 rfl (fun t ht => absurd ht (Nat.not_lt_zero t))))
theorem c80_up (hz : M 80 k = 0) (hk : k < 76) : c80 (up2 M 80 k 1) = c80 M + 1 := by
  refine nsum_up hk (fun j hj hne => ?_) ?_
  · have e : up2 M 80 k 1 80 j = M 80 j := by simp only [up2]; rw [if_neg (fun y => hne y.2)]
    show (if up2 M 80 k 1 80 j = 1 then 1 else 0) = (if M 80 j = 1 then 1 else 0)
    rw [e]
  · show (if up2 M 80 k 1 80 k = 1 then 1 else 0) = (if M 80 k = 1 then 1 else 0) + 1
    rw [show up2 M 80 k 1 80 k = 1 by simp [up2], if_pos rfl, hz, if_neg (by decide)]
theorem l_fix {Q : Im → Hm → Dm → Prop} {f : Int32} (hM0 : MTx M0 (ND n e)) (hB0 : BM M0 79 (BAD n e)) (hK : ∀ M v, Fr80 M0 M → z80 M → s80 n e M → P80 n e M0 76 v M → EvV (d + 1) nX4_reckon 112 [(0, .ref 73), (1, .int f), (2, .int v)] [] M h D Q) : ∀ (m k : Nat) (v : Int32) (M : Im), k + m = 76 → Fr80 M0 M → z80 M → s80 n e M → P80 n e M0 k v M → EvV (d + 1) nX4_reckon 120 [(0, .ref 73), (1, .int f), (2, .int v), (3, .int (nI k))] [] M h D Q
  | 0, k, v, M, hk, hF, hz, hs, hP => by
    obtain rfl : k = 76 := by omega
    exact R_X4_reckon_120 ⟨fun _ => hK M v hF hz hs hP, fun c => absurd ((nI_leI (a := 76) (by omega) (by omega)).mpr (by omega)) c⟩
  | m + 1, k, v, M, hk, hF, hz, hs, hP => by
    have hk76 : k < 76 := by omega
    have hM := MTx_fr hM0 (hF 78 (by decide))
    have hB := BM_fr hB0 (hF 79 (by decide))
    have skip : st80 n e M k → EvV (d + 1) nX4_reckon 120 [(0, .ref 73), (1, .int f), (2, .int v), (3, .int (nI (k + 1)))] [] M h D Q := fun hst => by
      refine l_fix hM0 hB0 hK m (k + 1) v M (by omega) hF hz hs (hP.imp (fun ⟨a, b, c⟩ => ⟨a, b, fun s hs => ?_⟩) id)
      by_cases z : s = k
      · rw [z, ← b]; exact hst
      · exact c s (by omega)
    refine R_X4_reckon_120 ⟨fun c => absurd ((nI_leI (a := 76) (by omega) (by omega)).mp c) (by omega), fun _ => ⟨kvp hk76 (by decide), ?_⟩⟩
    rw [nI_clamp (by omega), nI_1]
    refine ⟨fun c => skip (fun z => absurd z c), fun c => ⟨kvp hk76 (by decide), fun c2 => skip (fun _ z => ?_), fun c2 => ?_⟩⟩
    · rcases hB k hk76 with y | y
      · exact absurd y.1 c2
      · exact absurd y.2 z
    · have hnb : ¬ BAD n e k := by
        rcases hB k hk76 with y | y
        · exact y.2
        · rw [y.1] at c2; exact absurd (by decide) c2
      have hz0 : M 80 k = 0 := Classical.not_not.mp c
      refine t_areAll hk76 hM (fun hall => ⟨fun z => absurd z b1, fun _ => ⟨kvp hk76 (by decide), ?_⟩⟩) (fun ⟨t, ht, h1, h2⟩ => ⟨fun _ => skip (fun _ _ => ⟨t, ht, h1, h2⟩), fun z => absurd rfl z⟩)
      rw [oand]
      have hck : CANS n e k := cans_in hk76 hnb (fun t ht hn => hs t ht ((hz t ht).resolve_left (hall t ht hn)))
      refine l_fix hM0 hB0 hK m (k + 1) 1 _ (by omega) (fun c hc => by rw [up2_ne _ _ _ hc]; exact hF c hc) (fun s hs2 => ?_) (fun s hs2 h1 => ?_) (Or.inr ⟨rfl, ?_⟩)
      · simp only [up2]
        by_cases y : s = k
        · rw [if_pos ⟨trivial, y⟩]; exact Or.inr rfl
        · rw [if_neg (fun w => y w.2)]; exact hz s hs2
      · simp only [up2] at h1
        by_cases y : s = k
        · rw [y]; exact hck
        · rw [if_neg (fun w => y w.2)] at h1; exact hs s hs2 h1
      · rw [c80_up hz0 hk76]
        rcases hP with ⟨-, z, -⟩ | ⟨-, z⟩
        · rw [z]; omega
        · omega
theorem c80_le : c80 M ≤ 76 := by
  have : c80 M ≤ 76 * 1 := nsum_le (fun s _ => by split <;> omega)
  omega
theorem l_more {Q : Im → Hm → Dm → Prop} {f : Int32} (hM : MTx M0 (ND n e)) (hB : BM M0 79 (BAD n e)) (hQ : ∀ M1, BM M1 80 (CANS n e) → Fr80 M0 M1 → Q M1 h D) : ∀ (m c : Nat) (M : Im), 77 ≤ c + m → c ≤ c80 M → Fr80 M0 M → z80 M → s80 n e M → EvV (d + 1) nX4_reckon 112 [(0, .ref 73), (1, .int f), (2, .int 1)] [] M h D Q
  | 0, c, M, hm, hc, hF, hz, hs => absurd (Nat.le_trans hm hc) (Nat.not_le.mpr (Nat.lt_succ_of_le c80_le))
  | m + 1, c, M, hm, hc, hF, hz, hs => by
    refine R_X4_reckon_112 ⟨fun c => absurd c (by decide), fun _ => ?_⟩
    refine l_fix (M0 := M) (MTx_fr hM (hF 78 (by decide))) (BM_fr hB (hF 79 (by decide))) (fun M1 v f1 z1 s1 p1 => ?_) 76 0 0 M rfl (Fr80.refl M) hz hs (Or.inl ⟨rfl, rfl, fun s hs => absurd hs (Nat.not_lt_zero s)⟩)
    rcases p1 with ⟨rfl, rfl, hcl⟩ | ⟨rfl, hlt⟩
    · refine R_X4_reckon_112 ⟨fun _ => hQ M1 (fun s hs76 => ?_) hF, fun c => absurd rfl c⟩
      rcases hz s hs76 with y | y
      · refine Or.inl ⟨y, fun hc => ?_⟩
        have hx := hc (fun s => s < 76 → M1 80 s = 1) (fun s hs2 hb hx _ => (hz s hs2).resolve_left (fun w => ?_)) hs76
        · rw [y] at hx; exact absurd hx (by decide)
        · obtain ⟨t, ht, h1, h2⟩ := hcl s hs2 w hb
          have := hx t ht h1 ht
          rw [h2] at this; exact absurd this (by decide)
      · exact Or.inr ⟨y, hs s hs76 y⟩
    · exact l_more hM hB hQ m (c + 1) M1 (by omega) (Nat.lt_of_le_of_lt hc hlt) (hF.tr f1) z1 s1
/-- the marks after drawers below k -/
def SD (n : Nat) (e : V) (k i j : Nat) : Prop := (i < k ∧ ndO n e i j) ∨ ∃ k2 b, k2 < k ∧ i = 28 + 3 * k2 + b ∧ ndL n e k2 b j
theorem l_things {Q : Im → Hm → Dm → Prop} {f : Int32} (hw : wf n e) (hC0 : CX M0 e) (hB0 : BM M0 79 (BAD n e)) (hz0 : ∀ s, s < 76 → M0 80 s = 0) (hQ : ∀ M1, MTx M1 (ND n e) → BM M1 79 (BAD n e) → BM M1 80 (CANS n e) → FrL M0 M1 → Q M1 h D) : ∀ (m i : Nat) (M : Im), i + m = 12 → Fr78 M0 M → MTx M (fun a j => SD n e n a j ∨ ∃ t, t < i ∧ a = 16 + t ∧ ndT e t j) → EvV (d + 4) nX4_reckon 93 [(0, .ref 73), (1, .int f), (2, .int (nI i))] [] M h D Q
  | 0, i, M, hi, hF, hM => by
    obtain rfl : i = 12 := by omega
    refine R_X4_reckon_93 ⟨fun _ => ?_, fun c => absurd ((nI_leI (a := 12) (by omega) (by omega)).mpr (by omega)) c⟩
    have hM1 : MTx M (ND n e) := MTx_w hM (fun a j _ _ => by
      constructor
      · rintro ((⟨z1, z2⟩ | ⟨k2, b, z1, z2, z3⟩) | ⟨t, z1, z2, z3⟩)
        · exact Or.inl z2
        · exact Or.inr (Or.inr ⟨k2, b, z2, z3⟩)
        · exact Or.inr (Or.inl ⟨t, z2, z3⟩)
      · rintro (z | ⟨t, z1, z2⟩ | ⟨k2, b, z1, z2⟩)
        · exact Or.inl (Or.inl ⟨z.1, z⟩)
        · exact Or.inr ⟨t, z2.1, z1, z2⟩
        · exact Or.inl (Or.inr ⟨k2, b, z2.1, z1, z2⟩))
    have hB := BM_fr hB0 (hF 79 (by decide))
    refine l_more (M0 := M) hM1 hB (fun M1 c1 f1 => hQ M1 (MTx_fr hM1 (f1 78 (by decide))) (BM_fr hB (f1 79 (by decide))) c1 (hF.n.l.tr f1.l)) 77 0 M (by omega) (Nat.zero_le _) (Fr80.refl M) (fun s hs => Or.inl (by rw [hF 80 (by decide)]; exact hz0 s hs)) (fun s hs h1 => ?_)
    rw [hF 80 (by decide), hz0 s hs] at h1
    exact absurd h1 (by decide)
  | m + 1, i, M, hi, hF, hM => by
    refine R_X4_reckon_93 ⟨fun c => absurd ((nI_leI (a := 12) (by omega) (by omega)).mp c) (by omega), fun _ => t_markTaking (hC0.fr hF.k) hw (by omega) hM (fun M1 m1 f1 => ?_)⟩
    rw [nI_1]
    refine l_things hw hC0 hB0 hz0 hQ m (i + 1) M1 (by omega) (hF.tr f1) (MTx_w m1 (fun a j _ _ => ?_))
    constructor
    · rintro ((z | ⟨t, z1, z2⟩) | ⟨z1, z2⟩)
      · exact Or.inl z
      · exact Or.inr ⟨t, by omega, z2⟩
      · exact Or.inr ⟨i, by omega, z1, z2⟩
    · rintro (z | ⟨t, z1, z2, z3⟩)
      · exact Or.inl (Or.inl z)
      · by_cases w : t = i
        · rw [w] at z2 z3; exact Or.inr ⟨z2, z3⟩
        · exact Or.inl (Or.inr ⟨t, by omega, z2, z3⟩)
theorem l_drawers {Q : Im → Hm → Dm → Prop} {f : Int32} (hw : wf n e) (hC0 : CX M0 e) (hz0 : ∀ s, s < 76 → M0 80 s = 0) (hQ : ∀ M1, MTx M1 (ND n e) → BM M1 79 (BAD n e) → BM M1 80 (CANS n e) → FrL M0 M1 → Q M1 h D) : ∀ (m k : Nat) (M : Im), k + m = n → FrN M0 M → MTx M (SD n e k) → BM M 79 (fun i => i < k ∧ BAD n e i) → EvV (d + 4) nX4_reckon 57 [(0, .ref 73), (1, .int f), (2, .int (nI k))] [] M h D Q
  | 0, k, M, hk, hF, hM, hB => by
    have hn := hw.n16
    obtain rfl : k = n := by omega
    have hC := hC0.fr hF.k
    refine R_X4_reckon_57 ⟨vpl (by decide), ?_⟩
    rw [z_clamp, hC.n hw]
    refine ⟨fun _ => ?_, fun c => absurd ((nI_leI (by omega) (by omega)).mpr (Nat.le_refl _)) c⟩
    refine l_things (M0 := M) hw hC (BM_w hB (fun i _ => ⟨fun z => z.2, fun z => ⟨z.1, z⟩⟩)) (fun s hs => by rw [hF 80 (by decide) (by decide)]; exact hz0 s hs) (fun M1 a b c f1 => hQ M1 a b c (hF.l.tr f1)) 12 0 M rfl (Fr78.refl M) (MTx_w hM (fun a j _ _ => ⟨Or.inl, fun z => z.resolve_right (fun ⟨t, ht, _⟩ => absurd ht (Nat.not_lt_zero t))⟩))
  | m + 1, k, M, hk, hF, hM, hB => by
    have hn := hw.n16
    have hC := hC0.fr hF.k
    have hkn : k < n := by omega
    have nxt : ∀ M1, FrN M M1 → MTx M1 (fun i j => SD n e k i j ∨ (i = k ∧ ndO n e k j)) → BM M1 79 (fun i => i < k + 1 ∧ BAD n e i) → CV (d + 4) nX4_markLiftings [.ref 73, .int (nI k)] M1 h D (fun M4 h4 D4 => EvV (d + 4) nX4_reckon 57 [(0, .ref 73), (1, .int f), (2, .int (nI (k + 1)))] [] M4 h4 D4 Q) := by
      intro M1 f1 m1 b1'
      refine t_markLiftings (hC.fr f1.k) hw hkn m1 (fun M2 m2 f2 => l_drawers hw hC0 hz0 hQ m (k + 1) M2 (by omega) ((hF.tr f1).tr f2.n) (MTx_w m2 (fun i j _ _ => ?_)) (BM_fr b1' (f2 79 (by decide))))
      constructor
      · rintro (((⟨z1, z2⟩ | ⟨k2, b, z1, z2⟩) | ⟨z1, z2⟩) | ⟨b, z1, z2⟩)
        · exact Or.inl ⟨by omega, z2⟩
        · exact Or.inr ⟨k2, b, by omega, z2⟩
        · exact Or.inl ⟨by omega, by rw [z1]; exact z2⟩
        · exact Or.inr ⟨k, b, by omega, z1, z2⟩
      · rintro (⟨z1, z2⟩ | ⟨k2, b, z1, z2, z3⟩)
        · by_cases w : i = k
          · exact Or.inl (Or.inr ⟨w, by rw [← w]; exact z2⟩)
          · exact Or.inl (Or.inl (Or.inl ⟨by omega, z2⟩))
        · by_cases w : k2 = k
          · rw [w] at z2 z3; exact Or.inr ⟨b, z2, z3⟩
          · exact Or.inl (Or.inl (Or.inr ⟨k2, b, by omega, z2, z3⟩))
    refine R_X4_reckon_57 ⟨vpl (by decide), ?_⟩
    rw [z_clamp, hC.n hw, nI_1]
    refine ⟨fun c => absurd ((nI_leI (by omega) (by omega)).mp c) (by omega), fun _ => t_isClosed hC (by omega) (b2i_if (fun c => ?_) (fun c => ?_))⟩
    · have hno : ¬ clo e k := fun z => absurd ((clo_b c).mpr z) (by decide)
      refine nxt M (FrN.refl M) (MTx_w hM (fun i j _ _ => ⟨Or.inl, fun z => z.resolve_right (fun y => hno y.2.2.1)⟩)) (BM_w hB (fun i _ => ⟨fun z => ⟨by omega, z.2⟩, fun z => ⟨?_, z.2⟩⟩))
      by_cases w : i = k
      · have := z.2.2.1; rw [w] at this; exact absurd this hno
      · omega
    · refine t_markOpening hC hw hkn ((clo_b c).mp rfl) hM hB (fun M1 m1 b1' f1 => nxt M1 f1 m1 (BM_w b1' (fun i _ => ?_)))
      constructor
      · rintro (z | ⟨z1, z2⟩)
        · exact ⟨by omega, z.2⟩
        · exact ⟨by omega, by rw [z1]; exact z2⟩
      · rintro ⟨z1, z2⟩
        by_cases w : i = k
        · exact Or.inr ⟨w, by rw [← w]; exact z2⟩
        · exact Or.inl ⟨by omega, z2⟩
theorem l_zero2 {Q : Im → Hm → Dm → Prop} {f : Int32} (hK : ∀ M, FrL M0 M → (∀ i, i < 5776 → M 78 i = 0) → (∀ i, i < 76 → M 79 i = 0 ∧ M 80 i = 0) → EvV d nX4_reckon 57 [(0, .ref 73), (1, .int f), (2, .int 0)] [] M h D Q) : ∀ (m i : Nat) (M : Im), i + m = 76 → FrL M0 M → (∀ j, j < 5776 → M 78 j = 0) → (∀ j, j < i → M 79 j = 0 ∧ M 80 j = 0) → EvV d nX4_reckon 29 [(0, .ref 73), (1, .int f), (2, .int (nI i))] [] M h D Q
  | 0, i, M, hi, hF, h1, h2 => by
    obtain rfl : i = 76 := by omega
    exact R_X4_reckon_29 ⟨fun _ => hK M hF h1 h2, fun c => absurd ((nI_leI (a := 76) (by omega) (by omega)).mpr (by omega)) c⟩
  | m + 1, i, M, hi, hF, h1, h2 => by
    refine R_X4_reckon_29 ⟨fun c => absurd ((nI_leI (a := 76) (by omega) (by omega)).mp c) (by omega), fun _ => ⟨kvp (by omega) (by decide), kvp (by omega) (by decide), ?_⟩⟩
    rw [nI_clamp (by omega), nI_1, zand]
    refine l_zero2 hK m (i + 1) _ (by omega) (fun c a b d => by rw [up2_ne _ _ _ d, up2_ne _ _ _ b]; exact hF c a b d) (fun j hj => by rw [up2_ne _ _ _ (by decide), up2_ne _ _ _ (by decide)]; exact h1 j hj) (fun j hj => ?_)
    simp only [up2]
    by_cases w : j = i
    · subst w; simp
    · simp [w]; exact h2 j (by omega)
theorem l_zero1 {Q : Im → Hm → Dm → Prop} {f : Int32} (hK : ∀ M, FrL M0 M → (∀ i, i < 5776 → M 78 i = 0) → EvV d nX4_reckon 29 [(0, .ref 73), (1, .int f), (2, .int 0)] [] M h D Q) : ∀ (m i : Nat) (M : Im), i + m = 5776 → FrL M0 M → (∀ j, j < i → M 78 j = 0) → EvV d nX4_reckon 7 [(0, .ref 73), (1, .int f), (2, .int (nI i))] [] M h D Q
  | 0, i, M, hi, hF, h1 => by
    obtain rfl : i = 5776 := by omega
    exact R_X4_reckon_7 ⟨fun _ => hK M hF h1, fun c => absurd ((nI_leI (a := 5776) (by omega) (by omega)).mpr (by omega)) c⟩
  | m + 1, i, M, hi, hF, h1 => by
    refine R_X4_reckon_7 ⟨fun c => absurd ((nI_leI (a := 5776) (by omega) (by omega)).mp c) (by omega), fun _ => ⟨vp_in_nI (by omega) (by decide), ?_⟩⟩
    rw [nI_clamp (by omega), nI_1, zand]
    refine l_zero1 hK m (i + 1) _ (by omega) (fun c a b d => by rw [up2_ne _ _ _ a]; exact hF c a b d) (fun j hj => ?_)
    simp only [up2]
    by_cases w : j = i
    · rw [if_pos ⟨trivial, w⟩]
    · rw [if_neg (fun y => w y.2)]; exact h1 j (by omega)
theorem t_reckon {Q : Im → Hm → Dm → Prop} {f : Int32} (hw : wf n e) (hE : EF (M 74) e f) (hQ : ∀ M1, CX M1 e → MTx M1 (ND n e) → BM M1 80 (CANS n e) → FrL (up2 M 73 13 f) M1 → Q M1 h D) : CV (d + 5) nX4_reckon [.ref 73, .int f] M h D Q := by
  have hC0 : CX (up2 M 73 13 f) e := by
    unfold CX
    rw [up2_ne _ _ _ (by decide), show up2 M 73 13 f 73 13 = f by simp [up2]]; exact hE
  refine cv_of rfl rfl (R_X4_reckon_0 ⟨?_, l_zero1 (M0 := up2 M 73 13 f) (fun M1 f1 z1 => l_zero2 (M0 := up2 M 73 13 f) (fun M2 f2 z2 z3 => ?_) 76 0 M1 rfl f1 z1 (fun j hj => absurd hj (Nat.not_lt_zero j))) 5776 0 _ rfl (FrL.refl _) (fun j hj => absurd hj (Nat.not_lt_zero j))⟩)
  · rcases hE with ⟨z, -⟩ | ⟨z, -⟩
    · exact Or.inr z
    · exact Or.inl z
  · have hC2 := hC0.fr f2.k
    refine l_drawers (M0 := M2) hw hC2 (fun s hs => (z3 s hs).2) (fun M3 a b c f3 => hQ M3 (hC2.fr f3.k) a c (f2.tr f3)) n 0 M2 (by omega) (FrN.refl M2) (fun i j hi hj => Or.inl ⟨z2 _ (by omega), ?_⟩) (fun i hi => Or.inl ⟨(z3 i hi).1, fun z => absurd z.1 (Nat.not_lt_zero i)⟩)
    rintro (z | ⟨k2, b, z, -⟩)
    · exact absurd z.1 (Nat.not_lt_zero i)
    · exact absurd z (Nat.not_lt_zero k2)
end RK

/-! what both objects stand for: the row and its quarters, the history, the snapshot, the text
-/
abbrev RQ : Type := V × Nat
abbrev Ab : Type := RQ × (Nat × (Nat → RQ)) × Option RQ × (Nat × (Nat → Int32))
def recH (p : Nat) (hs : Nat → RQ) (r : RQ) : Nat × (Nat → RQ) :=
  if p < 4 then (p + 1, fun i => if i = p then r else hs i) else (4, fun i => if i = 3 then r else hs (i + 1))
def recA (A : Ab) : Ab := (A.1, recH A.2.1.1 A.2.1.2 A.1, A.2.2)
def hst (S : Nat) : Prop := S = 37 ∨ S = 46 ∨ S = 55 ∨ S = 64
theorem hst.st {S : Nat} (h : hst S) : St S := by unfold hst at h; unfold St; omega
def HX (M : Im) (h : Hm) (p : Nat) (hs : Nat → RQ) : Prop :=
  M 0 6 = nI p ∧ p ≤ 4 ∧ (∀ i, i < 4 → ∃ S, hst S ∧ h i = some S) ∧ (∀ i j, i < 4 → j < 4 → h i = h j → i = j) ∧ ∀ i S, i < p → h i = some S → RS M S (hs i).1 (hs i).2
def KX (M : Im) : Option RQ → Prop
  | none => M 0 7 = 0
  | some r => M 0 7 = 1 ∧ RS M 10 r.1 r.2
def TX (M : Im) (t : Nat × (Nat → Int32)) : Prop := M 31 1 = nI t.1 ∧ t.1 ≤ 60 ∧ ∀ i, i < t.1 → M 32 i = t.2 i
def IX (M : Im) (h : Hm) (A : Ab) : Prop := RS M 1 A.1.1 A.1.2 ∧ HX M h A.2.1.1 A.2.1.2 ∧ KX M A.2.2.1 ∧ TX M A.2.2.2
/-- the class's calls leave the model's cells alone, and the other way round -/
def FrX (M M1 : Im) : Prop := ∀ c, 73 ≤ c → M1 c = M c
theorem FrX.refl (M : Im) : FrX M M := fun _ _ => rfl
theorem FrX.tr {M M1 M2 : Im} (h1 : FrX M M1) (h2 : FrX M1 M2) : FrX M M2 := fun c hc => (h2 c hc).trans (h1 c hc)
theorem FrX.of {S : Nat} {M M1 : Im} (h : FrS S M M1) (hS : St S) : FrX M M1 := fun c hc => h c (by unfold St at hS; omega)
theorem IX_fr {M M1 : Im} {h : Hm} {A : Ab} (hI : IX M h A) (hF : ∀ c, c < 73 → ¬ (19 ≤ c ∧ c ≤ 30) → ¬ (33 ≤ c ∧ c ≤ 36) → M1 c = M c) : IX M1 h A := by
  obtain ⟨g1, ⟨g2, g3, g4, g5, g6⟩, g7, g8, g9, g10⟩ := hI
  refine ⟨RS_fr g1 (fun c _ _ => hF c (by omega) (by omega) (by omega)), ⟨?_, g3, g4, g5, fun i S hi hS => RS_fr (g6 i S hi hS) (fun c _ _ => ?_)⟩, ?_, ?_, g9, fun i hi => ?_⟩
  · rw [hF 0 (by omega) (by omega) (by omega)]; exact g2
  · obtain ⟨S2, hs2, e⟩ := g4 i (by omega)
    rw [e] at hS; obtain rfl : S2 = S := Option.some.inj hS
    unfold hst at hs2
    exact hF c (by omega) (by omega) (by omega)
  · cases hk : A.2.2.1 with
    | none => rw [hk] at g7; show M1 0 7 = 0; rw [hF 0 (by omega) (by omega) (by omega)]; exact g7
    | some r =>
      rw [hk] at g7
      refine ⟨?_, RS_fr g7.2 (fun c _ _ => hF c (by omega) (by omega) (by omega))⟩
      rw [hF 0 (by omega) (by omega) (by omega)]; exact g7.1
  · rw [hF 31 (by omega) (by omega) (by omega)]; exact g8
  · rw [hF 32 (by omega) (by omega) (by omega)]; exact g10 i hi
/-- the row changes -/
theorem IX_now {M M1 : Im} {h : Hm} {A : Ab} {r : RQ} (hI : IX M h A) (hR : RS M1 1 r.1 r.2) (hF : FrS 1 M M1) : IX M1 h (r, A.2) := by
  obtain ⟨g1, ⟨g2, g3, g4, g5, g6⟩, g7, g8, g9, g10⟩ := hI
  refine ⟨hR, ⟨?_, g3, g4, g5, fun i S hi hS => RS_fr (g6 i S hi hS) (fun c _ _ => ?_)⟩, ?_, ?_, g9, fun i hi => ?_⟩
  · rw [hF 0 (by omega)]; exact g2
  · obtain ⟨S2, hs2, e⟩ := g4 i (by simp only [] at hi; omega)
    rw [e] at hS; obtain rfl : S2 = S := Option.some.inj hS
    unfold hst at hs2
    exact hF c (by omega)
  · show KX M1 A.2.2.1
    cases hk : A.2.2.1 with
    | none => rw [hk] at g7; show M1 0 7 = 0; rw [hF 0 (by omega)]; exact g7
    | some r =>
      rw [hk] at g7
      refine ⟨?_, RS_fr g7.2 (fun c _ _ => hF c (by omega))⟩
      rw [hF 0 (by omega)]; exact g7.1
  · rw [hF 31 (by omega)]; exact g8
  · rw [hF 32 (by omega)]; exact g10 i hi
theorem vpd {x : Int32} {n m : Nat} (h : x = nI n) (hn : n < m) (hm : m < 2 ^ 31 := by decide) : vp_in x m := h ▸ vp_in_nI hn hm
section RE
variable {d : Nat} {M : Im} {h : Hm} {D : Dm} {A : Ab} {Q : Im → Hm → Dm → Prop}
theorem tX_drop {p : Nat} {hs : Nat → RQ} (hH : HX M h p hs) (hQ : ∀ h1 : Hm, (∀ i, i < 4 → h1 i = if i = 3 then h 0 else h (i + 1)) → Q (up2 M 0 6 3) h1 D) : CV (d + 1) nX3_dropOldest [.ref 0] M h D Q := by
  obtain ⟨-, -, g4, -, -⟩ := hH
  obtain ⟨S0, s0, e0⟩ := g4 0 (by decide)
  obtain ⟨S1, s1, e1⟩ := g4 1 (by decide)
  obtain ⟨S2, s2, e2⟩ := g4 2 (by decide)
  obtain ⟨S3, s3, e3⟩ := g4 3 (by decide)
  have c1 : (1 : Int32).toNatClampNeg = 1 := by decide
  have c2 : (2 : Int32).toNatClampNeg = 2 := by decide
  have c3 : (3 : Int32).toNatClampNeg = 3 := by decide
  refine cv_of rfl rfl (R_X3_dropOldest_0 ⟨vpl (by decide), S0, e0, s0.st, ?_⟩)
  refine R_X3_dropOldest_9 s0.st ⟨fun c => absurd c (by decide), fun _ => ⟨vpl (by decide), S1, by rw [c1]; exact e1, s1.st, vpd (n := 0) (by decide) (by decide), ?_⟩⟩
  rw [show ((1 : Int32) - 1).toNatClampNeg = 0 by decide, show (1 : Int32) + 1 = 2 by decide]
  refine R_X3_dropOldest_9 s0.st ⟨fun c => absurd c (by decide), fun _ => ⟨vpl (by decide), S2, ?_, s2.st, vpd (n := 1) (by decide) (by decide), ?_⟩⟩
  · rw [c2, va_up_ne _ _ (by decide)]; exact e2
  rw [show ((2 : Int32) - 1).toNatClampNeg = 1 by decide, show (2 : Int32) + 1 = 3 by decide]
  refine R_X3_dropOldest_9 s0.st ⟨fun c => absurd c (by decide), fun _ => ⟨vpl (by decide), S3, ?_, s3.st, vpd (n := 2) (by decide) (by decide), ?_⟩⟩
  · rw [c3, va_up_ne _ _ (by decide), va_up_ne _ _ (by decide)]; exact e3
  rw [show ((3 : Int32) - 1).toNatClampNeg = 2 by decide, show (3 : Int32) + 1 = 4 by decide]
  refine R_X3_dropOldest_9 s0.st ⟨fun _ => ⟨vpl (by decide), hQ _ (fun i hi => ?_)⟩, fun c => absurd (by decide) c⟩
  rw [c3]
  rcases (by omega : i = 0 ∨ i = 1 ∨ i = 2 ∨ i = 3) with rfl | rfl | rfl | rfl <;> simp [va_up, e0, e1, e2, e3]
theorem lX_rec {p : Nat} {hs : Nat → RQ} (hp : p < 4) (hI : IX M h A) (hg : A.1.1 1 = 0 ∨ A.1.1 1 = 1) (hA : A.2.1 = (p, hs)) (hQ : ∀ M1, IX M1 h (A.1, (p + 1, fun i => if i = p then A.1 else hs i), A.2.2) → FrX M M1 → Q M1 h D) : EvV (d + 3) nX3_recordState 12 [(0, .ref 0)] [] M h D Q := by
  obtain ⟨g1, g2, g7, g8, g9, g10⟩ := hI
  rw [hA] at g2
  obtain ⟨g2, g3, g4, g5, g6⟩ := g2
  obtain ⟨S, hS, e⟩ := g4 p (by omega)
  refine R_X3_recordState_12 ?_
  rw [g2, nI_clamp (by omega)]
  refine ⟨vp_in_nI hp (by decide), S, e, hS.st, cv_of rfl rfl (R_X3_copyState_0 (Or.inl rfl) hS.st (tS_copyFrom hS.st (Or.inl rfl) (by unfold hst at hS; omega) g1 hg (fun M1 r1 f1 => ?_)))⟩
  have k0 : M1 0 = M 0 := f1 0 (by unfold hst at hS; omega)
  have kk : ∀ c, c ≠ 0 → up2 M1 0 6 (M1 0 6 + 1) c = M1 c := fun c hc => up2_ne _ _ _ hc
  refine hQ _ ⟨?_, ⟨?_, (show p + 1 ≤ 4 by omega), g4, g5, fun i T hi hT => ?_⟩, ?_, ?_, g9, fun i hi => ?_⟩ ?_
  · refine RS_fr g1 (fun c _ _ => ?_)
    rw [kk c (by omega)]; exact f1 c (by unfold hst at hS; omega)
  · show up2 M1 0 6 (M1 0 6 + 1) 0 6 = nI (p + 1)
    rw [show up2 M1 0 6 (M1 0 6 + 1) 0 6 = M1 0 6 + 1 by simp [up2], k0, g2, nI_1]
  · have hi2 : i < p + 1 := hi
    show RS _ T (if i = p then A.1 else hs i).1 (if i = p then A.1 else hs i).2
    by_cases e2 : i = p
    · rw [if_pos e2]
      rw [e2, e] at hT; obtain rfl : S = T := Option.some.inj hT
      exact RS_fr r1 (fun c _ _ => kk c (by unfold hst at hS; omega))
    · rw [if_neg e2]
      obtain ⟨T2, hT2, e3⟩ := g4 i (by omega)
      rw [e3] at hT; obtain rfl : T2 = T := Option.some.inj hT
      have hne : T2 ≠ S := fun z => e2 (g5 i p (by omega) (by omega) (by rw [e3, e, z]))
      refine RS_fr (RS_frS (g6 i T2 (by omega) e3) (S := S) (by unfold hst at hS hT2; omega) f1) (fun c _ _ => kk c (by unfold hst at hT2; omega))
  · show KX _ A.2.2.1
    cases hk : A.2.2.1 with
    | none =>
      rw [hk] at g7
      show up2 M1 0 6 (M1 0 6 + 1) 0 7 = 0
      rw [show up2 M1 0 6 (M1 0 6 + 1) 0 7 = M1 0 7 by simp [up2], k0]; exact g7
    | some r =>
      rw [hk] at g7
      refine ⟨?_, RS_fr g7.2 (fun c _ _ => ?_)⟩
      · rw [show up2 M1 0 6 (M1 0 6 + 1) 0 7 = M1 0 7 by simp [up2], k0]; exact g7.1
      · rw [kk c (by omega)]; exact f1 c (by unfold hst at hS; omega)
  · rw [kk 31 (by decide), f1 31 (by unfold hst at hS; omega)]; exact g8
  · rw [kk 32 (by decide), f1 32 (by unfold hst at hS; omega)]; exact g10 i hi
  · intro c hc
    rw [kk c (by omega)]; exact f1 c (by unfold hst at hS; omega)
theorem tX_record (hI : IX M h A) (hg : A.1.1 1 = 0 ∨ A.1.1 1 = 1) (hQ : ∀ M1 h1, IX M1 h1 (recA A) → FrX M M1 → Q M1 h1 D) : CV (d + 4) nX3_recordState [.ref 0] M h D Q := by
  have hH := hI.2.1
  have hp6 := hH.1
  have hp4 := hH.2.1
  refine cv_of rfl rfl (R_X3_recordState_0 ?_)
  rw [hp6]
  have hA : A.2.1 = (A.2.1.1, A.2.1.2) := rfl
  by_cases hp : A.2.1.1 < 4
  · refine ⟨fun _ => lX_rec hp hI hg hA (fun M1 i1 f1 => hQ M1 h ?_ f1), fun c => absurd ((nI_ltI (b := 4) (by omega) (by decide)).mpr hp) c⟩
    unfold recA recH; rw [if_pos hp]; exact i1
  · refine ⟨fun c => absurd ((nI_ltI (b := 4) (by omega) (by decide)).mp c) hp, fun _ => tX_drop hH (fun h1 e1 => ?_)⟩
    have hr : ∀ c, c ≠ 0 → up2 M 0 6 3 c = M c := fun c hc => up2_ne _ _ _ hc
    obtain ⟨g1, ⟨-, -, g4, g5, g6⟩, g7, g8, g9, g10⟩ := hI
    refine lX_rec (A := (A.1, (3, fun i => A.2.1.2 (i + 1)), A.2.2)) (p := 3) (hs := fun i => A.2.1.2 (i + 1)) (by decide) ?_ hg rfl (fun M1 i1 f1 => hQ M1 h1 ?_ ?_)
    · refine ⟨RS_fr g1 (fun c _ _ => hr c (by omega)), ⟨by simp [up2]; rfl, by show 3 ≤ 4; omega, fun i hi => ?_, fun i j hi hj hij => ?_, fun i S hi hS => ?_⟩, ?_, ?_, g9, fun i hi => ?_⟩
      · rw [e1 i hi]
        by_cases e : i = 3
        · rw [if_pos e]; exact g4 0 (by decide)
        · rw [if_neg e]; exact g4 (i + 1) (by omega)
      · rw [e1 i hi, e1 j hj] at hij
        by_cases e : i = 3
        · by_cases e2 : j = 3
          · omega
          · rw [if_pos e, if_neg e2] at hij
            have := g5 0 (j + 1) (by decide) (by omega) hij; omega
        · by_cases e2 : j = 3
          · rw [if_neg e, if_pos e2] at hij
            have := g5 (i + 1) 0 (by omega) (by decide) hij; omega
          · rw [if_neg e, if_neg e2] at hij
            have := g5 (i + 1) (j + 1) (by omega) (by omega) hij; omega
      · have hi3 : i < 3 := hi
        rw [e1 i (by omega), if_neg (by omega)] at hS
        obtain ⟨S2, hs2, e⟩ := g4 (i + 1) (by omega)
        rw [e] at hS; obtain rfl : S2 = S := Option.some.inj hS
        exact RS_fr (g6 (i + 1) S2 (by omega) e) (fun c _ _ => hr c (by unfold hst at hs2; omega))
      · show KX _ A.2.2.1
        cases hk : A.2.2.1 with
        | none => rw [hk] at g7; show up2 M 0 6 3 0 7 = 0; rw [show up2 M 0 6 3 0 7 = M 0 7 by simp [up2]]; exact g7
        | some r =>
          rw [hk] at g7
          refine ⟨?_, RS_fr g7.2 (fun c _ _ => hr c (by omega))⟩
          rw [show up2 M 0 6 3 0 7 = M 0 7 by simp [up2]]; exact g7.1
      · rw [hr 31 (by decide)]; exact g8
      · rw [hr 32 (by decide)]; exact g10 i hi
    · unfold recA recH; rw [if_neg hp]; exact i1
    · exact fun c hc => (f1 c hc).trans (hr c (by omega))
end RE

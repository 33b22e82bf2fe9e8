/-! undo, keep, restore, minutes, type, clearText, on both sides -/
def opUndo (A : Ab) : Int32 × Ab := if A.2.1.1 = 0 then (-5, A) else (nI (A.2.1.1 - 1), (A.2.1.2 (A.2.1.1 - 1), (A.2.1.1 - 1, A.2.1.2), A.2.2))
def opKeep (A : Ab) : Int32 × Ab := (A.1.1 0, (A.1, A.2.1, some A.1, A.2.2.2))
def opRestore (A : Ab) : Int32 × Ab := match A.2.2.1 with
  | none => (-5, A)
  | some r => (r.1 0, (r, (recA A).2))
def chr (v : Int32) : Int32 := v.toUInt32.toUInt16.toUInt32.toInt32
def opType (A : Ab) (v : Int32) : Int32 × Ab := if A.2.2.2.1 < 60 then (nI (A.2.2.2.1 + 1), (A.1, A.2.1, A.2.2.1, (A.2.2.2.1 + 1, fun i => if i = A.2.2.2.1 then chr v else A.2.2.2.2 i))) else (-3, A)
def opClear (A : Ab) : Int32 × Ab := (nI A.2.2.2.1, (A.1, A.2.1, A.2.2.1, (0, A.2.2.2.2)))
theorem cpr_eq {s o r : V} (h : ∀ j, j < 168 → s j = r j) (ho : hiOk o) (hr : hiOk r) : cpr s o 168 = r := by
  funext j
  unfold cpr
  by_cases e : j < 168
  · rw [if_pos e, h j e]
  · rw [if_neg e, ho j (by omega), hr j (by omega)]
section UN
variable {d n : Nat} {M : Im} {h : Hm} {D : Dm} {A : Ab} {v : Int32} {Q : Int32 → Im → Hm → Dm → Prop}
theorem IX_06 {p : Nat} (hI : IX M h A) (hp : p ≤ A.2.1.1) : IX (up2 M 0 6 (nI p)) h (A.1, (p, A.2.1.2), A.2.2) := by
  obtain ⟨g1, ⟨g2, g3, g4, g5, g6⟩, g7, g8, g9, g10⟩ := hI
  have k : ∀ c, c ≠ 0 → up2 M 0 6 (nI p) c = M c := fun c hc => up2_ne _ _ _ hc
  refine ⟨RS_fr g1 (fun c _ _ => k c (by omega)), ⟨by simp [up2], (show p ≤ 4 by omega), g4, g5, fun i S hi hS => ?_⟩, ?_, ?_, g9, fun i hi => ?_⟩
  · have hi2 : i < p := hi
    obtain ⟨S2, hs2, e⟩ := g4 i (by omega)
    rw [e] at hS; obtain rfl : S2 = S := Option.some.inj hS
    exact RS_fr (g6 i S2 (by omega) e) (fun c _ _ => k c (by unfold hst at hs2; omega))
  · show KX _ A.2.2.1
    cases hk : A.2.2.1 with
    | none => rw [hk] at g7; show up2 M 0 6 (nI p) 0 7 = 0; rw [show up2 M 0 6 (nI p) 0 7 = M 0 7 by simp [up2]]; exact g7
    | some r =>
      rw [hk] at g7
      refine ⟨?_, RS_fr g7.2 (fun c _ _ => k c (by omega))⟩
      rw [show up2 M 0 6 (nI p) 0 7 = M 0 7 by simp [up2]]; exact g7.1
  · rw [k 31 (by decide)]; exact g8
  · rw [k 32 (by decide)]; exact g10 i hi
theorem IX_07 {r : RQ} {M1 : Im} (hI : IX M h A) (hR : RS M1 10 r.1 r.2) (hF : FrS 10 M M1) : IX (up2 M1 0 7 1) h (A.1, A.2.1, some r, A.2.2.2) := by
  obtain ⟨g1, ⟨g2, g3, g4, g5, g6⟩, g7, g8, g9, g10⟩ := hI
  have k : ∀ c, c ≠ 0 → up2 M1 0 7 1 c = M1 c := fun c hc => up2_ne _ _ _ hc
  refine ⟨RS_fr g1 (fun c _ _ => (k c (by omega)).trans (hF c (by omega))), ⟨?_, g3, g4, g5, fun i S hi hS => ?_⟩, ⟨by simp [up2], RS_fr hR (fun c _ _ => k c (by omega))⟩, ?_, g9, fun i hi => ?_⟩
  · rw [show up2 M1 0 7 1 0 6 = M1 0 6 by simp [up2], hF 0 (by omega)]; exact g2
  · obtain ⟨S2, hs2, e⟩ := g4 i (by have : i < A.2.1.1 := hi; omega)
    rw [e] at hS; obtain rfl : S2 = S := Option.some.inj hS
    exact RS_fr (g6 i S2 hi e) (fun c _ _ => (k c (by unfold hst at hs2; omega)).trans (hF c (by unfold hst at hs2; omega)))
  · rw [k 31 (by decide), hF 31 (by omega)]; exact g8
  · rw [k 32 (by decide), hF 32 (by omega)]; exact g10 i hi
theorem X_undo (hg : ∀ i, i < A.2.1.1 → (A.2.1.2 i).1 1 = 0 ∨ (A.2.1.2 i).1 1 = 1) (hI : IX M h A) (hQ : ∀ M1 h1, IX M1 h1 (opUndo A).2 → FrX M M1 → Q (opUndo A).1 M1 h1 D) : CI (d + 5) nX3_undo [.ref 0] M h D Q := by
  have s1 : St 1 := Or.inl rfl
  have hp6 := hI.2.1.1
  have hp4 := hI.2.1.2.1
  have g4 := hI.2.1.2.2.1
  have g6 := hI.2.1.2.2.2.2
  unfold opUndo at hQ
  refine ci_of rfl rfl (R_X3_undo_0 ?_)
  rw [show up2 M 0 6 (M 0 6 - 1) 0 6 = M 0 6 - 1 by simp [up2], hp6]
  refine ⟨fun c => ?_, fun c => ?_⟩
  · have hp : 0 < A.2.1.1 := (nI_ltI (a := 0) (by decide) (by omega)).mp c
    rw [if_neg (by omega)] at hQ
    have e1 : nI A.2.1.1 - 1 = nI (A.2.1.1 - 1) := nI_sub' (b := 1) (by omega)
    rw [e1, nI_clamp (by omega)]
    obtain ⟨S, hS, e⟩ := g4 (A.2.1.1 - 1) (by omega)
    have i1 := IX_06 (p := A.2.1.1 - 1) hI (by omega)
    have r1 : RS (up2 M 0 6 (nI (A.2.1.1 - 1))) S (A.2.1.2 (A.2.1.1 - 1)).1 (A.2.1.2 (A.2.1.1 - 1)).2 := RS_fr (g6 _ S (by omega) e) (fun c _ _ => up2_ne _ _ _ (by unfold hst at hS; omega))
    refine ⟨vp_in_nI (by omega) (by decide), S, e, hS.st, cv_of rfl rfl (R_X3_copyState_0 hS.st s1 (tS_copyFrom s1 hS.st (by unfold hst at hS; omega) r1 (hg _ (by omega)) (fun M1 r2 f2 => ?_)))⟩
    have i2 : IX M1 h (A.2.1.2 (A.2.1.1 - 1), (A.2.1.1 - 1, A.2.1.2), A.2.2) := IX_now (r := A.2.1.2 (A.2.1.1 - 1)) i1 r2 f2
    rw [show M1 0 6 = nI (A.2.1.1 - 1) from i2.2.1.1]
    exact hQ _ _ i2 (FrX.tr (fun c hc => up2_ne _ _ _ (by omega)) (FrX.of f2 s1))
  · have hp : A.2.1.1 = 0 := by
      rcases Nat.eq_zero_or_pos A.2.1.1 with z | z
      · exact z
      · exact absurd ((nI_ltI (a := 0) (by decide) (by omega)).mpr z) c
    rw [if_pos hp] at hQ
    exact hQ _ _ hI (FrX.refl M)
end UN

/-! build, lay, on both sides -/
abbrev okHold (hd b : Int32) : Prop := hd = 0 ∨ hd = 3 ∨ (hd = 1 ∧ 0 ≤ b ∧ b ≤ 9) ∨ (hd = 2 ∧ 0 ≤ b ∧ b ≤ 15)
theorem le_lt9 {x : Int32} : x ≤ 9 ↔ ¬ 10 ≤ x := by
  rw [Int32.le_iff_toInt_le, Int32.le_iff_toInt_le, show (9 : Int32).toInt = 9 by decide, show (10 : Int32).toInt = 10 by decide]; omega
theorem le_lt15 {x : Int32} : x ≤ 15 ↔ ¬ 16 ≤ x := by
  rw [Int32.le_iff_toInt_le, Int32.le_iff_toInt_le, show (15 : Int32).toInt = 15 by decide, show (16 : Int32).toInt = 16 by decide]; omega
theorem le_lt11 {x : Int32} : x ≤ 11 ↔ ¬ 12 ≤ x := by
  rw [Int32.le_iff_toInt_le, Int32.le_iff_toInt_le, show (11 : Int32).toInt = 11 by decide, show (12 : Int32).toInt = 12 by decide]; omega
theorem rng {v : Int32} {m : Nat} (h : 0 ≤ v ∧ v ≤ nI m) (hm : m < 2 ^ 31) : ∃ j, j ≤ m ∧ v = nI j := by
  obtain ⟨j, hj, rfl⟩ := nI_of (Int32.not_lt.mpr h.1)
  exact ⟨j, (nI_leI hj hm).mp h.2, rfl⟩
def opBuild (A : Ab) (o hd b st : Int32) : Int32 × Ab :=
  if o = -5 ∨ isD A.1.1 o then if okHold hd b ∧ 0 ≤ st ∧ st ≤ 9 then if nOf A.1.1 < 16 then if A.1.1 1 = 1 then (-4, A) else (nI (nOf A.1.1), ((nwD A.1.1 (nOf A.1.1) o hd b st 0, A.1.2), (recA A).2)) else (-3, A) else (-2, A) else (-1, A)
abbrev btm (a : V) (v : Int32) : Int32 := if v = -5 then 0 else fd a v.toNatClampNeg 4
def layR (a : V) (t : Nat) (o e : Int32) : V := updT (updT a t 0 o) t 1 e
def laidN (a : V) : Int32 := fsum (fun t => if ft a t 0 = -5 then 0 else 1) 12
def opLay (A : Ab) (t o e : Int32) : Int32 × Ab :=
  if isT t ∧ (o = -5 ∨ isD A.1.1 o) then if 0 ≤ e ∧ e ≤ btm A.1.1 o then if A.1.1 1 = 1 then (-4, A) else if ft A.1.1 t.toNatClampNeg 0 = o ∧ ft A.1.1 t.toNatClampNeg 1 = e then (-5, A) else (laidN (layR A.1.1 t.toNatClampNeg o e), ((layR A.1.1 t.toNatClampNeg o e, A.1.2), (recA A).2)) else (-2, A) else (-1, A)
section BD
variable {d n : Nat} {M : Im} {h : Hm} {D : Dm} {A : Ab} {o hd b st t e : Int32} {Q : Int32 → Im → Hm → Dm → Prop}
theorem t_isHold (h1 : okHold hd b → Q 1 M h D) (h0 : ¬ okHold hd b → Q 0 M h D) : CI (d + 1) nX3_isHold [.int hd, .int b] M h D Q := by
  refine ci_of rfl rfl (R_X3_isHold_0 ⟨fun c => h0 ?_, fun c => h1 (Or.inl c), fun c => ⟨fun c1 => h0 ?_, fun c1 => ⟨fun c2 => h0 ?_, fun c2 => h1 (Or.inr (Or.inr (Or.inl ⟨c, Int32.not_lt.mp c1, le_lt9.mpr c2⟩)))⟩⟩, fun c => ⟨fun c1 => h0 ?_, fun c1 => ⟨fun c2 => h0 ?_, fun c2 => h1 (Or.inr (Or.inr (Or.inr ⟨c, Int32.not_lt.mp c1, le_lt15.mpr c2⟩)))⟩⟩, fun c => h1 (Or.inr (Or.inl c))⟩)
  · rintro (rfl | rfl | ⟨rfl, -⟩ | ⟨rfl, -⟩)
    · exact absurd c (by decide)
    · exact absurd c (by decide)
    · exact absurd c (by decide)
    · exact absurd c (by decide)
  · subst c
    rintro (z | z | z | z)
    · exact absurd z (by decide)
    · exact absurd z (by decide)
    · exact absurd c1 (Int32.not_lt.mpr z.2.1)
    · exact absurd z.1 (by decide)
  · subst c
    rintro (z | z | z | z)
    · exact absurd z (by decide)
    · exact absurd z (by decide)
    · exact le_lt9.mp z.2.2 c2
    · exact absurd z.1 (by decide)
  · subst c
    rintro (z | z | z | z)
    · exact absurd z (by decide)
    · exact absurd z (by decide)
    · exact absurd z.1 (by decide)
    · exact absurd c1 (Int32.not_lt.mpr z.2.1)
  · subst c
    rintro (z | z | z | z)
    · exact absurd z (by decide)
    · exact absurd z (by decide)
    · exact absurd z.1 (by decide)
    · exact le_lt15.mp z.2.2 c2
theorem t_isThingP {v : Int32} (h1 : isT v → Q 1 M h D) (h0 : ¬ isT v → Q 0 M h D) : CI (d + 1) nX3_isThing [.int v] M h D Q :=
  ci_of rfl rfl (R_X3_isThing_0 ⟨fun c => h0 (fun z => absurd c (Int32.not_lt.mpr z.1)), fun c => ⟨fun c2 => h0 (fun z => le_lt11.mp z.2 c2), fun c2 => h1 ⟨Int32.not_lt.mp c, le_lt11.mpr c2⟩⟩⟩)
theorem X_build (hw : wf n A.1.1) (hI : IX M h A) (hQ : ∀ M1 h1, IX M1 h1 (opBuild A o hd b st).2 → FrX M M1 → Q (opBuild A o hd b st).1 M1 h1 D) : CI (d + 5) nX3_build [.ref 0, .int o, .int hd, .int b, .int st] M h D Q := by
  have hR := hI.1
  have s1 : St 1 := Or.inl rfl
  have k19 : (o = -5 ∨ isD A.1.1 o) → EvI (d + 4) nX3_build 19 [(0, .ref 0), (1, .int o), (2, .int hd), (3, .int b), (4, .int st)] [] M h D Q := by
    intro ho
    unfold opBuild at hQ
    rw [if_pos ho] at hQ
    refine R_X3_build_19 (t_isHold (fun c1 => ⟨fun z => absurd z b1, fun _ => ⟨fun c2 => ?_, fun c2 => ⟨fun c3 => ?_, fun c3 => ?_⟩⟩⟩) (fun c1 => ⟨fun _ => ?_, fun z => absurd rfl z⟩))
    · rw [if_neg (fun z => absurd c2 (Int32.not_lt.mpr z.2.1))] at hQ; exact hQ M h hI (FrX.refl M)
    · rw [if_pos ⟨c1, Int32.not_lt.mp c2, c3⟩] at hQ
      rw [hR.1, hw.a0, hR.2.1]
      refine ⟨fun c4 => ?_, fun c4 => ?_⟩
      · have hn : n < 16 := (nI_ltI (b := 16) (by have := hw.n16; omega) (by decide)).mp c4
        rw [hw.nOf, if_pos hn] at hQ
        refine ⟨fun c5 => ?_, fun c5 => ?_⟩
        · rw [if_neg (by rw [c5]; decide)] at hQ
          refine tX_record hI hw.a1 (fun M1 h1 i1 f1 => tS_addDrawer s1 (show RS M1 1 A.1.1 A.1.2 from i1.1) hw.a0 hn (hw.zr n (Nat.le_refl _) hn).2.1 (fun M2 r2 f2 => ?_))
          have r3 : RS M2 1 (nwD A.1.1 n o hd b st 0) A.1.2 := r2
          have i2 : IX M2 h1 ((nwD A.1.1 n o hd b st 0, A.1.2), (recA A).2) := IX_now (r := (nwD A.1.1 n o hd b st 0, A.1.2)) i1 r3 f2
          rw [r3.1, nwD_n, show nI (n + 1) - 1 = nI n by rw [← nI_1]; exact Int32.add_sub_cancel _ _]
          exact hQ _ h1 i2 (f1.tr (FrX.of f2 s1))
        · rw [if_pos (hw.a1.resolve_left c5)] at hQ; exact hQ M h hI (FrX.refl M)
      · rw [hw.nOf, if_neg (fun z => c4 ((nI_ltI (b := 16) (by omega) (by decide)).mpr z))] at hQ; exact hQ M h hI (FrX.refl M)
    · rw [if_neg (fun z => c3 z.2.2)] at hQ; exact hQ M h hI (FrX.refl M)
    · rw [if_neg (fun z => c1 z.1)] at hQ; exact hQ M h hI (FrX.refl M)
  refine ci_of rfl rfl (R_X3_build_0 ⟨fun c => k19 (Or.inl c), fun c => t_isThere s1 (hR.1.trans hw.a0) hw.n16 (fun k hk e => ⟨fun _ => k19 (Or.inr (by rw [e]; exact isD_of hw.a0 hw.n16 hk)), fun z => absurd b1 z⟩) (fun c2 => ⟨fun z => absurd rfl z, fun _ => ?_⟩)⟩)
  unfold opBuild at hQ
  rw [if_neg (fun z => z.elim c (isD_no hw.a0 hw.n16 c2))] at hQ; exact hQ M h hI (FrX.refl M)
end BD

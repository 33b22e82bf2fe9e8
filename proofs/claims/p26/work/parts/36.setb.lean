/-! setBottoms, on both sides -/
def cbF (a : V) (k : Nat) (b : Int32) : V := cb a k b 12
def opSetB (A : Ab) (v b : Int32) : Int32 × Ab :=
  if isD A.1.1 v then if 0 ≤ b ∧ b ≤ 3 then if A.1.1 1 = 1 then (-4, A) else if fd A.1.1 v.toNatClampNeg 4 = b then (-5, A) else (fd A.1.1 v.toNatClampNeg 4, ((cbF A.1.1 v.toNatClampNeg b, A.1.2), (recA A).2)) else (-2, A) else (-1, A)
section SB
variable {d n : Nat} {M : Im} {h : Hm} {D : Dm} {A : Ab} {v b : Int32} {Q : Int32 → Im → Hm → Dm → Prop}
theorem tS_cbF {S q k : Nat} {a : V} {Q : Im → Hm → Dm → Prop} (hS : St S) (hR : RS M S a q) (hk : k < 16) (hQ : ∀ M1, RS M1 S (cbF a k b) q → FrS S M M1 → Q M1 h D) : CV (d + 2) nX2_changeBottoms [.ref S, .int (nI k), .int b] M h D Q := tS_changeBottoms hS hR hk hQ
theorem IX_put {M1 M2 : Im} {h1 : Hm} {a' : V} {q' : Nat} (i1 : IX M1 h1 (recA A)) (r2 : RS M2 1 a' q') (f2 : FrS 1 M1 M2) : IX M2 h1 ((a', q'), (recA A).2) := IX_now (r := (a', q')) i1 r2 f2
theorem X_fin {M2 : Im} {h1 : Hm} {a' : V} {q' : Nat} {x : Int32} {B : Ab} {Q : Int32 → Im → Hm → Dm → Prop} (hQ : ∀ M1 h1, IX M1 h1 (x, ((a', q'), B.2)).2 → FrX M M1 → Q (x, ((a', q'), B.2)).1 M1 h1 D) (i : IX M2 h1 ((a', q'), B.2)) (f : FrX M M2) : Q x M2 h1 D := hQ M2 h1 i f
theorem X_setB (hw : wf n A.1.1) (hI : IX M h A) (hQ : ∀ M1 h1, IX M1 h1 (opSetB A v b).2 → FrX M M1 → Q (opSetB A v b).1 M1 h1 D) : CI (d + 5) nX3_setBottoms [.ref 0, .int v, .int b] M h D Q := by
  have hR := hI.1
  have s1 : St 1 := Or.inl rfl
  refine ci_of rfl rfl (R_X3_setBottoms_0 (t_isThere s1 (hR.1.trans hw.a0) hw.n16 (fun k hk e => ?_) (fun c => ?_)))
  · have hk16 : k < 16 := by have := hw.n16; omega
    subst e
    unfold opSetB at hQ
    rw [if_pos (isD_of hw.a0 hw.n16 hk), kcl hk16] at hQ
    refine ⟨fun _ => ⟨fun c => ?_, fun c => ⟨fun c2 => ⟨fun c3 => ⟨kvp hk16 (by decide), ?_⟩, fun c3 => ?_⟩, fun c2 => ?_⟩⟩, fun z => absurd b1 z⟩
    · rw [if_neg (fun z => absurd c (Int32.not_lt.mpr z.1))] at hQ; exact hQ M h hI (FrX.refl M)
    · rw [hR.2.1] at c3
      rw [if_pos ⟨Int32.not_lt.mp c, c2⟩, if_neg (by rw [c3]; decide)] at hQ
      have e6 : M 6 k = fd A.1.1 k 4 := (hR.2.2.2.2.2.2.2.1 k hk16).2.2.2.2.1
      rw [kcl hk16, e6]
      refine ⟨fun c4 => ?_, fun c4 => ?_⟩
      · rw [if_neg c4] at hQ
        refine tX_record hI hw.a1 (fun M1 h1 i1 f1 => tS_cbF s1 (show RS M1 1 A.1.1 A.1.2 from i1.1) hk16 (fun M2 r2 f2 => ?_))
        exact X_fin hQ (IX_put i1 r2 f2) (f1.tr (FrX.of f2 s1))
      · rw [if_pos (Classical.not_not.mp c4)] at hQ; exact hQ M h hI (FrX.refl M)
    · rw [hR.2.1] at c3
      rw [if_pos ⟨Int32.not_lt.mp c, c2⟩, if_pos (hw.a1.resolve_left c3)] at hQ; exact hQ M h hI (FrX.refl M)
    · rw [if_neg (fun z => c2 z.2)] at hQ; exact hQ M h hI (FrX.refl M)
  · refine ⟨fun z => absurd rfl z, fun _ => ?_⟩
    unfold opSetB at hQ
    rw [if_neg (isD_no hw.a0 hw.n16 c)] at hQ; exact hQ M h hI (FrX.refl M)
end SB

/-! buildAll on the model's side; record once more, with the cells of the text unchanged -/
def FrW (M M1 : Im) : Prop := (∀ c, c ≠ 73 → c ≠ 75 → M1 c = M c) ∧ M1 73 15 = M 73 15
section REW
variable {d : Nat} {M : Im} {h : Hm} {D : Dm} {A : Ab} {Q : Im → Hm → Dm → Prop}
theorem tM_recZ (hI : IM M D A) (hp : A.2.1.1 ≤ 4) (hQ : ∀ M1 D1, IM M1 D1 (recA A) → M1 74 = M 74 → D1 77 0 = D 77 0 → FrW M M1 → Q M1 h D1) : CV (d + 2) nX4_record [.ref 73] M h D Q := by
  obtain ⟨⟨g1, g2⟩, ⟨g3, g4⟩, g5, g6, g7⟩ := hI
  by_cases hp4 : A.2.1.1 < 4
  · refine tM_record hp4 g3 (fun M1 k1 k2 k3 k4 => hQ M1 _ ?_ (k4 74 (by decide) (by decide)) (by simp [up2]) ⟨k4, by rw [k1]; rfl⟩)
    unfold recA recH; rw [if_pos hp4]
    refine ⟨⟨(k4 74 (by decide) (by decide)).trans g1, by simp [up2]; exact g2⟩, ⟨by rw [k1]; rfl, fun i hi => ?_⟩, ?_, ?_, fun i hi => ?_⟩
    · have hi2 : i < A.2.1.1 + 1 := hi
      show (∀ j, j < 168 → M1 75 (168 * i + j) = (if i = A.2.1.1 then A.1 else A.2.1.2 i).1 j) ∧ _ = dq (if i = A.2.1.1 then A.1 else A.2.1.2 i).2
      by_cases e : i = A.2.1.1
      · rw [if_pos e, e]
        refine ⟨fun j hj => by rw [k3 j hj, g1], ?_⟩
        rw [show up2 D 77 (1 + A.2.1.1) (D 77 0) 77 (1 + A.2.1.1) = D 77 0 by simp [up2]]; exact g2
      · rw [if_neg e]
        refine ⟨fun j hj => by rw [k2 _ (by omega)]; exact (g4 i (by omega)).1 j hj, ?_⟩
        rw [show up2 D 77 (1 + A.2.1.1) (D 77 0) 77 (1 + i) = D 77 (1 + i) by simp [up2, e]]; exact (g4 i (by omega)).2
    · show KM M1 _ A.2.2.1
      cases hk : A.2.2.1 with
      | none => rw [hk] at g5; show M1 73 12 = 0; rw [k1]; exact g5
      | some r =>
        rw [hk] at g5
        refine ⟨by rw [k1]; exact g5.1, fun j hj => by rw [k4 76 (by decide) (by decide)]; exact g5.2.1 j hj, ?_⟩
        rw [show up2 D 77 (1 + A.2.1.1) (D 77 0) 77 5 = D 77 5 by unfold up2; rw [if_neg (by omega)]]; exact g5.2.2
    · rw [k1]; exact g6
    · rw [k4 83 (by decide) (by decide)]; exact g7 i hi
  · have h4 : A.2.1.1 = 4 := by omega
    rw [h4] at g3 g4
    refine tM_recordF g3 (fun M1 k1 k2 k3 k4 => hQ M1 _ ?_ (k4 74 (by decide) (by decide)) (by simp [up2]) ⟨k4, by rw [k1]; rfl⟩)
    unfold recA recH; rw [if_neg hp4]
    refine ⟨⟨(k4 74 (by decide) (by decide)).trans g1, by simp [up2]; exact g2⟩, ⟨by rw [k1]; rfl, fun i hi => ?_⟩, ?_, ?_, fun i hi => ?_⟩
    · have hi2 : i < 4 := hi
      show (∀ j, j < 168 → M1 75 (168 * i + j) = (if i = 3 then A.1 else A.2.1.2 (i + 1)).1 j) ∧ _ = dq (if i = 3 then A.1 else A.2.1.2 (i + 1)).2
      by_cases e : i = 3
      · rw [if_pos e, e]
        refine ⟨fun j hj => by rw [show 168 * 3 + j = 504 + j by omega, k3 j hj, g1], ?_⟩
        simp [up2]; exact g2
      · rw [if_neg e]
        refine ⟨fun j hj => ?_, ?_⟩
        · rw [k2 _ (by omega), show 168 + (168 * i + j) = 168 * (i + 1) + j by omega]; exact (g4 (i + 1) (by omega)).1 j hj
        · have := (g4 (i + 1) (by omega)).2
          rcases (by omega : i = 0 ∨ i = 1 ∨ i = 2) with rfl | rfl | rfl <;> simpa [up2] using this
    · show KM M1 _ A.2.2.1
      cases hk : A.2.2.1 with
      | none => rw [hk] at g5; show M1 73 12 = 0; rw [k1]; exact g5
      | some r =>
        rw [hk] at g5
        refine ⟨by rw [k1]; exact g5.1, fun j hj => by rw [k4 76 (by decide) (by decide)]; exact g5.2.1 j hj, ?_⟩
        simpa [up2] using g5.2.2
    · rw [k1]; exact g6
    · rw [k4 83 (by decide) (by decide)]; exact g7 i hi
end REW
section BM2
variable {d n : Nat} {M : Im} {h : Hm} {D : Dm} {A : Ab} {Q : Int32 → Im → Hm → Dm → Prop}
theorem lM_add {f : Nat} {rs : Nat → Rw} {a : V} {M0 : Im} {v1 : Int32} (hf : f ≤ 20) (hwi : ∀ i, i ≤ f → wf (n + i) (addA a n rs i)) (hnf : n + f ≤ 16) (hQ : ∀ M1, M1 74 = addA a n rs f → (∀ c, c ≠ 74 → M1 c = M0 c) → Q (nI f) M1 h D) : ∀ (m i : Nat) (M : Im), i + m = f → M 74 = addA a n rs i → (∀ c, c ≠ 74 → M c = M0 c) → M0 73 15 = nI f → (∀ j, j < f → XWM M0 j (rs j)) → EvI (d + 2) nX4_buildAll 99 [(0, .ref 73), (1, .int v1), (2, .int (nI i))] [] M h D Q
  | 0, i, M, hi, hR, hF, h3, hX => by
    obtain rfl : i = f := by omega
    refine R_X4_buildAll_99 ?_
    rw [hF 73 (by decide), h3]
    exact ⟨fun _ => hQ M hR hF, fun c => absurd ((nI_leI (by omega) (by omega)).mpr (Nat.le_refl _)) c⟩
  | m + 1, i, M, hi, hR, hF, h3, hX => by
    obtain ⟨x1, x2, x3, x4⟩ := hX i (by omega)
    have hw := hwi i (by omega)
    refine R_X4_buildAll_99 ?_
    rw [hF 73 (by decide), h3, mul4, show nI (4 * i) + 1 = nI (4 * i + 1) from nI_1 _, show nI (4 * i) + 2 = nI (4 * i + 2) from lit _ 2, show nI (4 * i) + 3 = nI (4 * i + 3) from lit _ 3, nI_clamp (by omega), nI_clamp (by omega), nI_clamp (by omega), nI_clamp (by omega), hF 82 (by decide), x1, x2, x3, nI_1]
    refine ⟨fun c => absurd ((nI_leI (by omega) (by omega)).mp c) (by omega), fun _ => ⟨vp_in_nI (by omega) (by decide), vp_in_nI (by omega) (by decide), vp_in_nI (by omega) (by decide), tM_goBuild (n := n + i) (by rw [hR]; exact hw.a0) (by omega) (fun M2 g1 g2 => t_d ⟨vp_in_nI (by omega) (by decide), dvp (by omega) (by decide), ?_⟩)⟩⟩
    rw [dcl (by omega) (by decide), g2 82 (by decide), hF 82 (by decide), x4]
    refine lM_add hf hwi hnf hQ m (i + 1) _ (by omega) ?_ (fun c hc => by rw [up2_ne _ _ _ hc, g2 c hc]; exact hF c hc) h3 hX
    rw [row_F, g1, hR]; rfl
theorem M_all (hw : wf n A.1.1) (hI : IM M D A) (hp : A.2.1.1 ≤ 4) (ht : txOk A.2.2.2) (hQ : ∀ M1 D1, IM M1 D1 (opAll A).2 → FrM M M1 → Q (opAll A).1 M1 h D1) : CI (d + 6) nX4_buildAll [.ref 73] M h D Q := by
  have hn := hw.n16
  obtain ⟨ok1, ok2⟩ := rdAll_ok ht
  unfold opAll at hQ
  have hIM : ∀ M1, FrQ 0 M M1 → IM M1 D A ∧ FrM M M1 := fun M1 f1 => ⟨IM_fr hI ⟨f1.2.1 10 (by decide) (by decide), f1.2.1 11 (by decide) (by decide), f1.2.1 12 (by decide) (by decide)⟩ (fun c hc => f1.1 c (by omega) (by omega)), fun c hc => f1.1 c (by omega) (by omega)⟩
  refine ci_of rfl rfl (R_X4_buildAll_0 (tM_fault hI.2.2.2.1 hI.2.2.2.2 ht (fun f rs p M1 he t1 x1 f1 => ⟨fun _ => ?_, fun z => absurd (by decide) z⟩) (fun f M1 he t1 f1 => ⟨fun z => absurd z (nI_pos (by omega)), fun _ => ?_⟩)))
  · obtain ⟨hf, hr⟩ := ok1 f rs he
    rw [he] at hQ
    dsimp only at hQ
    rw [hw.nOf] at hQ
    obtain ⟨i1, fr1⟩ := hIM M1 f1
    have h74 : M1 74 = A.1.1 := i1.1.1
    have hw1 : wf n (M1 74) := by rw [h74]; exact hw
    have lf : ∀ (m i : Nat), i + m = f → fitB n rs i = true → EvI (d + 5) nX4_buildAll 16 [(0, .ref 73), (1, .int (-1)), (2, .int (nI i))] [] M1 h D Q := by
      intro m
      induction m with
      | zero =>
        intro i hi hb
        obtain rfl : i = f := by omega
        rw [hb, if_pos rfl] at hQ
        refine R_X4_buildAll_16 ?_
        rw [t1.2.2.1, z_clamp, hw1.a0, nI_add]
        refine ⟨fun _ => ⟨vpl (by decide), fun c => ?_, fun c => ?_⟩, fun c => absurd ((nI_leI (by omega) (by omega)).mpr (Nat.le_refl _)) c⟩
        · have hnf : n + i ≤ 16 := (nI_leI (b := 16) (by omega) (by decide)).mp c
          rw [if_pos hnf, ← h74] at hQ
          refine t_isGame (fun hg => ⟨fun z => absurd z b1, fun _ => ?_⟩) (fun hg => ⟨fun _ => ?_, fun z => absurd rfl z⟩)
          · rw [if_pos hg] at hQ; exact hQ M1 D i1 fr1
          · rw [if_neg hg] at hQ
            refine tM_recZ i1 hp (fun M2 D2 i2 e1 e2 f2 => ?_)
            refine lM_add (M0 := M2) (n := n) (a := M1 74) hf (wf_addA hw1 i hb hr hnf) hnf (fun M3 r3 f3 => ?_) i 0 M2 (by omega) e1 (fun _ _ => rfl) (f2.2.trans t1.2.2.1) (fun j hj => ?_)
            · refine M_fin hQ (IM_put i2 r3 f3 (e2.trans i1.1.2) (fun _ _ => rfl)) (fun c hc => ?_)
              rw [f3 c (by omega), f2.1 c (by omega) (by omega)]; exact fr1 c hc
            · unfold XWM
              rw [f2.1 82 (by decide) (by decide)]; exact x1 j hj
        · rw [if_neg (fun z => c ((nI_leI (b := 16) (by omega) (by decide)).mpr z))] at hQ; exact hQ M1 D i1 fr1
      | succ m ih =>
        intro i hi hb
        have hx := (x1 i (by omega)).1
        refine R_X4_buildAll_16 ?_
        rw [t1.2.2.1, mul4, nI_clamp (by omega), hx, z_clamp, hw1.a0, show nI n + nI i = nI (n + i) from nI_add n i, nI_1]
        refine ⟨fun c => absurd ((nI_leI (by omega) (by omega)).mp c) (by omega), fun _ => ⟨vp_in_nI (by omega) (by decide), fun c => ih (i + 1) (by omega) ?_, fun c => ⟨vp_in_nI (by omega) (by decide), vpl (by decide), fun c2 => ih (i + 1) (by omega) ?_, fun c2 => ?_⟩⟩⟩
        · unfold fitB; rw [hb, c, decide_eq_true (m5_lt _ (by omega))]; rfl
        · unfold fitB; rw [hb, decide_eq_true c2]; rfl
        · rw [fitB_f (show i < f by omega) c2, if_neg (by decide)] at hQ; exact hQ M1 D i1 fr1
    exact lf f 0 (by omega) rfl
  · rw [he] at hQ
    obtain ⟨i1, fr1⟩ := hIM M1 f1
    exact hQ M1 D i1 fr1
end BM2

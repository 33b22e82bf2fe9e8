/-! buildAll, on both sides -/
def fitB (n : Nat) (rs : Nat → Rw) : Nat → Bool
  | 0 => true
  | k + 1 => fitB n rs k && decide ((rs k).1 < nI (n + k))
def addA (a : V) (n : Nat) (rs : Nat → Rw) : Nat → V
  | 0 => a
  | k + 1 => nwD (addA a n rs k) (n + k) (rs k).1 (rs k).2.1 (rs k).2.2.1 0 (nI (rs k).2.2.2)
def opAll (A : Ab) : Int32 × Ab := match (rdAll A.2.2.2).1 with
  | none => ((-100) - nI (rdAll A.2.2.2).2, A)
  | some w => if fitB (nOf A.1.1) w.2 w.1 = true then if nOf A.1.1 + w.1 ≤ 16 then if A.1.1 1 = 1 then (-4, A) else (nI w.1, ((addA A.1.1 (nOf A.1.1) w.2 w.1, A.1.2), (recA A).2)) else (-3, A) else (-1, A)
theorem nwD_by {a : V} {n : Nat} {o hd b b2 st bt : Int32} (h : hd = 1 ∨ hd = 2 → b = b2) : nwD a n o hd b st bt = nwD a n o hd b2 st bt := by
  unfold nwD goB
  by_cases c : hd = 1 ∨ hd = 2
  · rw [h c]
  · rw [if_neg c, if_neg c]
theorem m5_lt (k : Nat) (h : k < 2 ^ 31) : (-5 : Int32) < nI k := by
  rw [Int32.lt_iff_toInt_lt, nI_toInt h, show (-5 : Int32).toInt = -5 by decide]; omega
theorem fitB_t {n : Nat} {rs : Nat → Rw} : ∀ {f i : Nat}, fitB n rs f = true → i < f → (rs i).1 < nI (n + i)
  | 0, _, _, h => absurd h (Nat.not_lt_zero _)
  | f + 1, i, h, hi => by
    unfold fitB at h
    rw [Bool.and_eq_true] at h
    by_cases e : i = f
    · rw [e]; exact of_decide_eq_true h.2
    · exact fitB_t h.1 (by omega)
theorem fitB_f {n : Nat} {rs : Nat → Rw} : ∀ {f i : Nat}, i < f → ¬ ((rs i).1 < nI (n + i)) → fitB n rs f = false
  | 0, _, h, _ => absurd h (Nat.not_lt_zero _)
  | f + 1, i, hi, h => by
    unfold fitB
    by_cases e : i = f
    · rw [e] at h; rw [decide_eq_false h, Bool.and_false]
    · rw [fitB_f (by omega) h, Bool.false_and]
theorem wf_addA {n : Nat} {a : V} {rs : Nat → Rw} (hw : wf n a) (f : Nat) (hf : fitB n rs f = true) (hr : ∀ i, i < f → rwOk (rs i)) (hn : n + f ≤ 16) : ∀ i, i ≤ f → wf (n + i) (addA a n rs i)
  | 0, _ => hw
  | i + 1, hi => by
    have ih := wf_addA hw f hf hr hn i (by omega)
    obtain ⟨h1, h2, h3⟩ := hr i (by omega)
    have hft := fitB_t hf (show i < f by omega)
    show wf ((n + i) + 1) (nwD (addA a n rs i) (n + i) (rs i).1 (rs i).2.1 (rs i).2.2.1 0 (nI (rs i).2.2.2))
    refine wf_nwD (s := 0) (bt := (rs i).2.2.2) ih (by omega) ?_ (fun z => ?_) (fun z => ?_) (by decide) rfl h3
    · rcases h1 with z | ⟨j, hj, z⟩
      · exact Or.inl z
      · rw [z] at hft
        exact Or.inr ⟨j, (nI_ltI (by omega) (by omega)).mp hft, z⟩
    · rcases h2 with y | y | ⟨y, j, hj, e⟩ | ⟨y, -⟩
      · rw [z] at y; exact absurd y (by decide)
      · rw [z] at y; exact absurd y (by decide)
      · exact ⟨j, hj, e⟩
      · rw [z] at y; exact absurd y (by decide)
    · rcases h2 with y | y | ⟨y, -⟩ | ⟨y, j, hj, e⟩
      · rw [z] at y; exact absurd y (by decide)
      · rw [z] at y; exact absurd y (by decide)
      · rw [z] at y; exact absurd y (by decide)
      · exact ⟨j, hj, e⟩
theorem addA_hd {a : V} {n j : Nat} {rs : Nat → Rw} (h0 : 0 < j) (hj : j < 4) : ∀ i, addA a n rs i j = a j
  | 0 => rfl
  | i + 1 => by
    show nwD (addA a n rs i) (n + i) _ _ _ _ _ j = a j
    rw [nwD_hd h0 hj]; exact addA_hd h0 hj i
section BA
variable {d n : Nat} {M : Im} {h : Hm} {D : Dm} {A : Ab} {Q : Int32 → Im → Hm → Dm → Prop}
theorem IX_Y {M1 : Im} (hI : IX M h A) (hF : FrY M M1) (h31 : M1 31 1 = M 31 1) : IX M1 h A := by
  obtain ⟨g1, ⟨g2, g3, g4, g5, g6⟩, g7, g8, g9, g10⟩ := hI
  have k : ∀ c, c ≠ 31 → (c < 33 ∨ 36 < c) → M1 c = M c := hF
  refine ⟨RS_fr g1 (fun c _ _ => k c (by omega) (by omega)), ⟨?_, g3, g4, g5, fun i S hi hS => ?_⟩, ?_, h31.trans g8, g9, fun i hi => ?_⟩
  · rw [k 0 (by decide) (by decide)]; exact g2
  · obtain ⟨S2, hs2, e⟩ := g4 i (by omega)
    rw [e] at hS; obtain rfl : S2 = S := Option.some.inj hS
    exact RS_fr (g6 i S2 hi e) (fun c _ _ => k c (by unfold hst at hs2; omega) (by unfold hst at hs2; omega))
  · cases hk : A.2.2.1 with
    | none => rw [hk] at g7; show M1 0 7 = 0; rw [k 0 (by decide) (by decide)]; exact g7
    | some r =>
      rw [hk] at g7
      refine ⟨?_, RS_fr g7.2 (fun c _ _ => k c (by omega) (by omega))⟩
      rw [k 0 (by decide) (by decide)]; exact g7.1
  · rw [k 32 (by decide) (by decide)]; exact g10 i hi
theorem FrY.x {M1 : Im} (hF : FrY M M1) : FrX M M1 := fun c hc => hF c (by omega) (by omega)
theorem l_fits {f : Nat} {rs : Nat → Rw} (hn : n ≤ 16) (hf : f ≤ 20) (h3 : M 31 3 = nI f) (hx : ∀ i, i < f → M 33 i = (rs i).1) (hQ : Q (b2i (fitB n rs f)) M h D) : ∀ (m i : Nat), i + m = f → fitB n rs i = true → EvI d nX0_fitsBehind 2 [(0, .ref 31), (1, .int (nI n)), (2, .int (nI i))] [] M h D Q
  | 0, i, hi, ht => by
    obtain rfl : i = f := by omega
    refine R_X0_fitsBehind_2 ?_
    rw [h3]
    refine ⟨fun _ => ?_, fun c => absurd ((nI_leI (by omega) (by omega)).mpr (Nat.le_refl _)) c⟩
    rw [ht] at hQ; exact hQ
  | m + 1, i, hi, ht => by
    refine R_X0_fitsBehind_2 ?_
    rw [h3, nI_clamp (by omega), hx i (by omega), nI_add, nI_1]
    refine ⟨fun c => absurd ((nI_leI (by omega) (by omega)).mp c) (by omega), fun _ => ⟨vp_in_nI (by omega) (by decide), fun c => ?_, fun c => ?_⟩⟩
    · exact l_fits hn hf h3 hx hQ m (i + 1) (by omega) (by unfold fitB; rw [ht, decide_eq_true c]; rfl)
    · rw [fitB_f (show i < f by omega) c] at hQ; exact hQ
theorem lX_add {f q : Nat} {rs : Nat → Rw} {a : V} {M0 : Im} {v1 : Int32} (hf : f ≤ 20) (hwi : ∀ i, i ≤ f → wf (n + i) (addA a n rs i)) (hnf : n + f ≤ 16) (hQ : ∀ M1, RS M1 1 (addA a n rs f) q → FrS 1 M0 M1 → Q (nI f) M1 h D) : ∀ (m i : Nat) (M : Im), i + m = f → RS M 1 (addA a n rs i) q → FrS 1 M0 M → M 31 3 = nI f → (∀ j, j < f → XW M j (rs j)) → EvI (d + 2) nX3_buildAll 79 [(0, .ref 0), (1, .int v1), (2, .int (nI i))] [] M h D Q
  | 0, i, M, hi, hR, hF, h3, hX => by
    obtain rfl : i = f := by omega
    refine R_X3_buildAll_79 ?_
    rw [h3]
    exact ⟨fun _ => hQ M hR hF, fun c => absurd ((nI_leI (by omega) (by omega)).mpr (Nat.le_refl _)) c⟩
  | m + 1, i, M, hi, hR, hF, h3, hX => by
    obtain ⟨x1, x2, x3, x4⟩ := hX i (by omega)
    have hw := hwi i (by omega)
    refine R_X3_buildAll_79 ?_
    rw [h3, nI_clamp (by omega), x1, x2, x4, nI_1]
    refine ⟨fun c => absurd ((nI_leI (by omega) (by omega)).mp c) (by omega), fun _ => ⟨vp_in_nI (by omega) (by decide), vp_in_nI (by omega) (by decide), vp_in_nI (by omega) (by decide), vp_in_nI (by omega) (by decide), tS_addDrawer (Or.inl rfl) hR hw.a0 (by omega) (hw.zr (n + i) (Nat.le_refl _) (by omega)).2.1 (fun M2 r2 f2 => ?_)⟩⟩
    have r3 : RS M2 1 (nwD (addA a n rs i) (n + i) (rs i).1 (rs i).2.1 (M 35 i) 0 (nI (rs i).2.2.2)) q := r2
    rw [nwD_by x3] at r3
    refine lX_add hf hwi hnf hQ m (i + 1) M2 (by omega) r3 (hF.tr f2) (by rw [f2 31 (by omega)]; exact h3) (fun j hj => ?_)
    unfold XW
    rw [f2 33 (by omega), f2 34 (by omega), f2 35 (by omega), f2 36 (by omega)]
    exact hX j hj
theorem X_all (hw : wf n A.1.1) (hI : IX M h A) (ht : txOk A.2.2.2) (hQ : ∀ M1 h1, IX M1 h1 (opAll A).2 → FrX M M1 → Q (opAll A).1 M1 h1 D) : CI (d + 6) nX3_buildAll [.ref 0] M h D Q := by
  have hn := hw.n16
  have s1 : St 1 := Or.inl rfl
  obtain ⟨ok1, ok2⟩ := rdAll_ok ht
  unfold opAll at hQ
  refine ci_of rfl rfl (R_X3_buildAll_0 (tX_readAll hI.2.2.2.1 hI.2.2.2.2.2 ht (fun f rs p M1 he t1 x1 f1 => ⟨fun _ => ?_, fun z => absurd rfl z⟩) (fun f M1 he t1 f1 => ⟨fun z => ?_, fun _ => ?_⟩)))
  · obtain ⟨hf, hr⟩ := ok1 f rs he
    rw [he] at hQ
    dsimp only at hQ
    rw [hw.nOf] at hQ
    have i1 : IX M1 h A := IX_Y hI f1 (t1.1.trans hI.2.2.2.1.symm)
    have hR := i1.1
    rw [hR.1, hw.a0]
    refine ci_of rfl rfl (R_X0_fitsBehind_0 (l_fits hn hf t1.2.2.1 (fun i hi => (x1 i hi).1) ?_ f 0 (by omega) rfl))
    cases hb : fitB n rs f
    · rw [hb, if_neg (by decide)] at hQ
      exact ⟨fun z => absurd rfl z, fun _ => hQ M1 h i1 f1.x⟩
    · rw [hb, if_pos rfl] at hQ
      refine ⟨fun _ => ?_, fun z => absurd b1 z⟩
      rw [t1.2.2.1, hR.1, hw.a0, nI_add, hR.2.1]
      refine ⟨fun c => ?_, fun c => ?_⟩
      · have hnf : n + f ≤ 16 := (nI_leI (b := 16) (by omega) (by decide)).mp c
        rw [if_pos hnf] at hQ
        refine ⟨fun c2 => ?_, fun c2 => ?_⟩
        · rw [if_neg (by rw [c2]; decide)] at hQ
          refine tX_recZ i1 hw.a1 (fun M2 h2 i2 f2 => ?_)
          refine lX_add (M0 := M2) (q := A.1.2) (n := n) (a := A.1.1) hf (wf_addA hw f hb hr hnf) hnf (fun M3 r3 f3 => ?_) f 0 M2 (by omega) (show RS M2 1 A.1.1 A.1.2 from i2.1) (FrS.refl 1 M2) (by rw [f2 31 (by omega)]; exact t1.2.2.1) (fun j hj => ?_)
          · exact X_fin hQ (IX_put i2 r3 f3) ((f1.x.tr f2.x).tr (FrX.of f3 s1))
          · unfold XW
            rw [f2 33 (by omega), f2 34 (by omega), f2 35 (by omega), f2 36 (by omega)]
            exact x1 j hj
        · rw [if_pos (hw.a1.resolve_left c2)] at hQ; exact hQ M1 h i1 f1.x
      · rw [if_neg (fun z => c ((nI_leI (b := 16) (by omega) (by decide)).mpr z))] at hQ; exact hQ M1 h i1 f1.x
  · have h2 := congrArg Int32.toInt z
    rw [nI_toInt (by omega), show (-1 : Int32).toInt = -1 by decide] at h2
    omega
  · rw [he] at hQ
    exact hQ M1 h (IX_Y hI f1 (t1.1.trans hI.2.2.2.1.symm)) f1.x
end BA

/-! whole texts read, on both sides -/
theorem rdA_ok {t : Tx} (ht : txOk t) : ∀ (m p f : Nat) (rs : Nat → Rw), p ≤ t.1 → 3 * f ≤ p + 1 → (∀ i, i < f → rwOk (rs i)) → (∀ f2 rs2, (rdA t m p f rs).1 = some (f2, rs2) → f2 ≤ 20 ∧ ∀ i, i < f2 → rwOk (rs2 i)) ∧ (rdA t m p f rs).2 ≤ 60
  | 0, p, f, rs, hp, hf, hr => by
    have hL := ht.1
    refine ⟨fun f2 rs2 z => ?_, by show p ≤ 60; omega⟩
    have := Option.some.inj z
    obtain ⟨rfl, rfl⟩ := Prod.mk.inj this
    exact ⟨by omega, hr⟩
  | m + 1, p, f, rs, hp, hf, hr => by
    have hL := ht.1
    unfold rdA
    by_cases c : p < t.1
    · rw [if_pos c]
      by_cases c2 : sg t p 59 59 = true
      · rw [if_pos c2]
        have hq := rdW_p (t := t) (p := p + 1) c
        cases hw : (rdW t (p + 1)).1 with
        | none => exact ⟨fun f2 rs2 z => (by cases z), by show (rdW t (p + 1)).2 ≤ 60; omega⟩
        | some w =>
          have hv := rdW_v (p := p + 1) c hw
          refine rdA_ok ht m _ (f + 1) _ hq.2 (by omega) (fun i hi => ?_)
          unfold upW
          by_cases e : i = f
          · rw [if_pos e]; exact hv.1
          · rw [if_neg e]; exact hr i (by omega)
      · rw [if_neg c2]
        exact ⟨fun f2 rs2 z => (by cases z), by show p ≤ 60; omega⟩
    · rw [if_neg c]
      refine ⟨fun f2 rs2 z => ?_, by show p ≤ 60; omega⟩
      have := Option.some.inj z
      obtain ⟨rfl, rfl⟩ := Prod.mk.inj this
      exact ⟨by omega, hr⟩
theorem rdAll_ok {t : Tx} (ht : txOk t) : (∀ f rs, (rdAll t).1 = some (f, rs) → f ≤ 20 ∧ ∀ i, i < f → rwOk (rs i)) ∧ (rdAll t).2 ≤ 60 := by
  have hL := ht.1
  have hq := rdW_p (t := t) (p := 0) (Nat.zero_le _)
  unfold rdAll
  cases hw : (rdW t 0).1 with
  | none => exact ⟨fun f rs z => (by cases z), by show (rdW t 0).2 ≤ 60; omega⟩
  | some w =>
    have hv := rdW_v (Nat.zero_le _) hw
    exact rdA_ok ht 60 _ 1 _ hq.2 (by omega) (fun i hi => hv.1)
def FrY (M M1 : Im) : Prop := ∀ c, c ≠ 31 → (c < 33 ∨ 36 < c) → M1 c = M c
theorem FrR.y {f : Nat} {M M1 : Im} (h : FrR f M M1) : FrY M M1 := fun c a b => funext (fun i => h c i a (by omega))
theorem FrY.tr {M M1 M2 : Im} (h1 : FrY M M1) (h2 : FrY M1 M2) : FrY M M2 := fun c a b => (h2 c a b).trans (h1 c a b)
theorem XW_fr {M M1 : Im} {f i : Nat} {w : Rw} (hX : XW M i w) (h : FrR f M M1) (hi : i ≠ f) : XW M1 i w := by
  obtain ⟨h1, h2, h3, h4⟩ := hX
  refine ⟨?_, ?_, fun z => ?_, ?_⟩
  · rw [h 33 i (by decide) (by omega)]; exact h1
  · rw [h 34 i (by decide) (by omega)]; exact h2
  · rw [h 35 i (by decide) (by omega)]; exact h3 z
  · rw [h 36 i (by decide) (by omega)]; exact h4
section RA
variable {d p f : Nat} {t : Tx} {M M0 : Im} {h : Hm} {D : Dm} {Q : Int32 → Im → Hm → Dm → Prop}
theorem lX_all (ht : txOk t) (hQ1 : ∀ f rs p M1, (rdAll t).1 = some (f, rs) → XT M1 t p f → (∀ i, i < f → XW M1 i (rs i)) → FrY M0 M1 → Q (-1) M1 h D) (hQ0 : ∀ f M1, (rdAll t).1 = none → XT M1 t (rdAll t).2 f → FrY M0 M1 → Q (nI (rdAll t).2) M1 h D) : ∀ (m p f : Nat) (rs : Nat → Rw) (M : Im), m + f = 61 → 0 < f → p ≤ t.1 → 3 * f ≤ p + 1 → XT M t p f → (∀ i, i < f → XW M i (rs i)) → FrY M0 M → rdAll t = rdA t m p f rs → EvI (d + 4) nX0_readAll 17 [(0, .ref 31), (1, .int 1), (2, .int (nI (f - 1)))] [] M h D Q
  | 0, p, f, rs, M, hm, hf0, hp, hf, hT, hX, hF, he => absurd ht.1 (by omega)
  | m + 1, p, f, rs, M, hm, hf0, hp, hf, hT, hX, hF, he => by
    have hL := ht.1
    refine R_X0_readAll_17 ⟨fun z => absurd ((nI_leI (a := 60) (by decide) (by omega)).mp z) (by omega), fun _ => ⟨fun z => absurd z b1, fun _ => ?_⟩⟩
    unfold rdA at he
    rw [hT.1, hT.2.1]
    refine ⟨fun z => ⟨fun y => absurd y b1, fun _ => ?_⟩, fun z => ?_⟩
    · rw [if_neg (show ¬ p < t.1 from fun y => absurd ((nI_leI (by omega) (by omega)).mp z) (by omega))] at he
      exact hQ1 f rs p M (by rw [he]) hT hX hF
    · have hlt : p < t.1 := by
        rcases Nat.lt_or_ge p t.1 with y | y
        · exact y
        · exact absurd ((nI_leI (by omega) (by omega)).mpr y) z
      rw [if_pos hlt] at he
      have bad : ∀ (M2 : Im) (f2 q : Nat), rdAll t = (none, q) → XT M2 t q f2 → FrY M0 M2 → EvI (d + 4) nX0_readAll 17 [(0, .ref 31), (1, .int 0), (2, .int (nI (f - 1) + 1))] [] M2 h D Q := by
        intro M2 f2 q he2 t2 f2'
        have hq := hQ0 f2 M2 (by rw [he2]) (by rw [he2]; exact t2) f2'
        have hv : Q (M2 31 2) M2 h D := by
          rw [t2.2.1]; rw [he2] at hq; exact hq
        exact R_X0_readAll_17 ⟨fun _ => ⟨fun _ => hv, fun y => absurd rfl y⟩, fun _ => ⟨fun _ => ⟨fun _ => hv, fun y => absurd rfl y⟩, fun y => absurd rfl y⟩⟩
      refine t_readSign (c := 59) hT ht hp (by decide) (fun c M1 t1 f1 => ⟨fun y => absurd y b1, fun _ => ?_⟩) (fun c => ⟨fun _ => ?_, fun y => absurd rfl y⟩)
      · rw [if_pos c] at he
        have f1' : FrY M0 M1 := hF.tr (fun c a _ => f1 c a)
        have hX1 : ∀ i, i < f → XW M1 i (rs i) := fun i hi => by
          unfold XW
          rw [f1 33 (by decide), f1 34 (by decide), f1 35 (by decide), f1 36 (by decide)]; exact hX i hi
        have hq := rdW_p (t := t) (p := p + 1) hlt
        refine t_readDrawer t1 ht hlt (by omega) (fun w hw M2 t2 w2 r2 => ⟨fun y => absurd y b1, fun _ => ?_⟩) (fun hw M2 t2 r2 => ⟨fun _ => ?_, fun y => absurd rfl y⟩)
        · rw [hw] at he
          have hv := rdW_v (p := p + 1) hlt hw
          have := lX_all ht hQ1 hQ0 m (rdW t (p + 1)).2 (f + 1) (upW rs f w) M2 (by omega) (by omega) hq.2 (by omega) t2 (fun i hi => ?_) (f1'.tr r2.y) he
          · rw [show f + 1 - 1 = (f - 1) + 1 by omega, ← nI_1] at this
            exact this
          · unfold upW
            by_cases e : i = f
            · rw [if_pos e, e]; exact w2
            · rw [if_neg e]; exact XW_fr (hX1 i (by omega)) r2 e
        · rw [hw] at he
          exact bad M2 f _ he t2 (f1'.tr r2.y)
      · rw [if_neg (by rw [c]; decide)] at he
        exact bad M f p he hT hF
theorem tX_readAll (hL1 : M 31 1 = nI t.1) (hch : ∀ i, i < t.1 → M 32 i = t.2 i) (ht : txOk t) (hQ1 : ∀ f rs p M1, (rdAll t).1 = some (f, rs) → XT M1 t p f → (∀ i, i < f → XW M1 i (rs i)) → FrY M M1 → Q (-1) M1 h D) (hQ0 : ∀ f M1, (rdAll t).1 = none → XT M1 t (rdAll t).2 f → FrY M M1 → Q (nI (rdAll t).2) M1 h D) : CI (d + 5) nX0_readAll [.ref 31] M h D Q := by
  have hL := ht.1
  have t0 : XT (up2 (up2 M 31 2 0) 31 3 0) t 0 0 := by
    refine ⟨?_, ?_, ?_, fun i hi => ?_⟩
    · rw [show up2 (up2 M 31 2 0) 31 3 0 31 1 = M 31 1 by simp [up2]]; exact hL1
    · simp [up2]; rfl
    · simp [up2]; rfl
    · rw [up2_ne _ _ _ (by decide), up2_ne _ _ _ (by decide)]; exact hch i hi
  have f0 : FrY M (up2 (up2 M 31 2 0) 31 3 0) := fun c a _ => by rw [up2_ne _ _ _ a, up2_ne _ _ _ a]
  have hq := rdW_p (t := t) (p := 0) (Nat.zero_le _)
  refine ci_of rfl rfl (R_X0_readAll_0 (t_readDrawer t0 ht (Nat.zero_le _) (by decide) (fun w hw M2 t2 w2 r2 => ?_) (fun hw M2 t2 r2 => ?_)))
  · have he : rdAll t = rdA t 60 (rdW t 0).2 1 (fun _ => w) := by unfold rdAll; rw [hw]
    have hv := rdW_v (Nat.zero_le _) hw
    exact lX_all (M0 := M) ht hQ1 hQ0 60 (rdW t 0).2 1 (fun _ => w) M2 rfl (by decide) hq.2 (by omega) t2 (fun i hi => by rw [show i = 0 by omega]; exact w2) (f0.tr r2.y) he
  · have he : rdAll t = (none, (rdW t 0).2) := by unfold rdAll; rw [hw]
    have hv : Q (M2 31 2) M2 h D := by
      have := hQ0 0 M2 (by rw [he]) (by rw [he]; exact t2) (f0.tr r2.y)
      rw [he] at this
      rw [t2.2.1]; exact this
    exact R_X0_readAll_17 ⟨fun _ => ⟨fun _ => hv, fun y => absurd rfl y⟩, fun _ => ⟨fun _ => ⟨fun _ => hv, fun y => absurd rfl y⟩, fun y => absurd rfl y⟩⟩
theorem tm_readDrawer (hT : MTt M t p f) (ht : txOk t) (hp : p ≤ t.1) (hf : f < 21) (hQ1 : ∀ w, (rdW t p).1 = some w → ∀ M1, MTt M1 t (rdW t p).2 (f + 1) → XWM M1 f w → FrQ (4 * f) M M1 → Q 1 M1 h D) (hQ0 : (rdW t p).1 = none → ∀ M1, MTt M1 t (rdW t p).2 f → FrQ (4 * f) M M1 → Q 0 M1 h D) : CI (d + 4) nX4_readsDrawer [.ref 73] M h D Q := by
  have hL := ht.1
  have h1 := rdO_p hp
  have h2 := rdH_p h1.2
  unfold rdW at hQ1 hQ0
  have k64 : ∀ (M1 : Im) (o : Int32), (rdO t p).1 = some o → MTt M1 t (rdO t p).2 f → M1 82 (4 * f) = o → FrQ (4 * f) M M1 → EvI (d + 3) nX4_readsDrawer 64 [(0, .ref 73), (1, .int (nI (4 * f)))] [] M1 h D Q := by
    intro M1 o ho t1 o1 f1
    rw [ho] at hQ1 hQ0
    dsimp only at hQ1 hQ0
    refine R_X4_readsDrawer_64 (tm_readHold t1 ht h1.2 hf (fun M2 t2 o2 f2 => ?_))
    have r2 : FrQ (4 * f) M M2 := f1.tr (f2.le (by omega))
    cases hh : (rdH t (rdO t p).2).1 with
    | none =>
      rw [hh] at hQ0
      exact ⟨fun y => absurd rfl y, fun _ => hQ0 rfl M2 t2 r2⟩
    | some hb =>
      rw [hh] at hQ1 hQ0
      dsimp only at hQ1 hQ0
      refine ⟨fun _ => ?_, fun y => absurd b1 y⟩
      rw [show nI (4 * f) + 3 = nI (4 * f + 3) from lit _ 3, nI_clamp (by omega)]
      have t3 : MTt (up2 M2 82 (4 * f + 3) 0) t (rdH t (rdO t p).2).2 f := t2.w82
      have r3 : FrQ (4 * f) M (up2 M2 82 (4 * f + 3) 0) := r2.p82 (by omega)
      rw [t3.2.1]
      refine ⟨vp_in_nI (by omega) (by decide), ?_⟩
      unfold rdB at hQ1 hQ0
      refine t_isSign (lo := 42) (hi := 42) t3 ht h2.2 (by decide) (by decide) (fun c => ⟨fun y => absurd y b1, fun _ => ?_⟩) (fun c => ⟨fun _ => ?_, fun y => absurd rfl y⟩)
      · rw [if_pos c] at hQ1 hQ0
        have hlt : (rdH t (rdO t p).2).2 + 1 ≤ t.1 := (sg_t c).1
        rw [t3.2.1, nI_1]
        have t4 := t3.at (q := (rdH t (rdO t p).2).2 + 1)
        have r4 := r3.p73 (k := 14) (x := nI ((rdH t (rdO t p).2).2 + 1)) (Or.inl rfl)
        rw [t4.2.1]
        refine t_isSign (lo := 49) (hi := 51) t4 ht hlt (by decide) (by decide) (fun c2 => ⟨fun _ => ?_, fun y => absurd b1 y⟩) (fun c2 => ⟨fun y => absurd rfl y, fun _ => ?_⟩)
        · obtain ⟨w1, w2, w3⟩ := sg_t c2
          have hd : rdD t ((rdH t (rdO t p).2).2 + 1) 1 3 = (some (ch t ((rdH t (rdO t p).2).2 + 1) - 48), (rdH t (rdO t p).2).2 + 1 + 1) := if_pos c2
          rw [hd] at hQ1
          obtain ⟨a1, a2⟩ := ht.2 _ w1
          rw [t4.2.1, nI_clamp (by omega), t4.2.2.2 _ w1, a1, show nI (ch t ((rdH t (rdO t p).2).2 + 1)) - 48 = nI (ch t ((rdH t (rdO t p).2).2 + 1) - 48) from nI_sub' (b := 48) (by omega)]
          refine ⟨vp_in_nI (by omega) (by decide), vp_in_nI (by omega) (by decide), fun M7 e7 => ?_⟩
          have t5 : MTt (up2 (up2 (up2 M2 82 (4 * f + 3) 0) 73 14 (nI ((rdH t (rdO t p).2).2 + 1))) 82 (4 * f + 3) (nI (ch t ((rdH t (rdO t p).2).2 + 1) - 48))) t _ f := t4.w82
          rw [t5.2.1, nI_1] at e7
          have t7 : MTt M7 t ((rdH t (rdO t p).2).2 + 1 + 1) f := by rw [e7]; exact t5.at
          have r7 : FrQ (4 * f) M M7 := by rw [e7]; exact (r4.p82 (by omega)).p73 (Or.inl rfl)
          rw [t7.2.2.1, nI_1]
          have e82 : M7 82 = up2 (up2 (up2 M2 82 (4 * f + 3) 0) 73 14 (nI ((rdH t (rdO t p).2).2 + 1))) 82 (4 * f + 3) (nI (ch t ((rdH t (rdO t p).2).2 + 1) - 48)) 82 := by rw [e7, up2_ne _ _ _ (by decide)]
          have e82b : ∀ i, i ≠ 4 * f + 3 → M7 82 i = M2 82 i := fun i hi => by
            rw [e82]; simp only [up2]; rw [if_neg (fun y => hi y.2), if_neg (by omega), if_neg (fun y => hi y.2)]
          refine hQ1 (o, hb.1, hb.2, ch t ((rdH t (rdO t p).2).2 + 1) - 48) rfl _ t7.fw ⟨?_, ?_, ?_, ?_⟩ (r7.p73 (Or.inr rfl))
          · rw [up2_ne _ _ _ (by decide), e82b _ (by omega), f2.2.2 _ (by omega)]; exact o1
          · rw [up2_ne _ _ _ (by decide), e82b _ (by omega)]; exact (o2 hb hh).1
          · rw [up2_ne _ _ _ (by decide), e82b _ (by omega)]; exact (o2 hb hh).2
          · rw [up2_ne _ _ _ (by decide), e82]; simp [up2]
        · have hd : rdD t ((rdH t (rdO t p).2).2 + 1) 1 3 = (none, (rdH t (rdO t p).2).2 + 1) := if_neg (fun y => by rw [c2] at y; cases y)
          rw [hd] at hQ0
          exact hQ0 rfl _ t4 r4
      · rw [if_neg (by rw [c]; decide)] at hQ1
        rw [t3.2.2.1, nI_1]
        have eb : ∀ i, i ≠ 4 * f + 3 → up2 M2 82 (4 * f + 3) 0 82 i = M2 82 i := fun i hi => by
          simp only [up2]; rw [if_neg (fun y => hi y.2)]
        refine hQ1 (o, hb.1, hb.2, 0) rfl _ t3.fw ⟨?_, ?_, ?_, ?_⟩ (r3.p73 (Or.inr rfl))
        · rw [up2_ne _ _ _ (by decide), eb _ (by omega), f2.2.2 _ (by omega)]; exact o1
        · rw [up2_ne _ _ _ (by decide), eb _ (by omega)]; exact (o2 hb hh).1
        · rw [up2_ne _ _ _ (by decide), eb _ (by omega)]; exact (o2 hb hh).2
        · rw [up2_ne _ _ _ (by decide)]; simp [up2]; rfl
  refine ci_of rfl rfl (R_X4_readsDrawer_0 ?_)
  rw [hT.2.1, hT.2.2.1, mul4, nI_clamp (by omega)]
  unfold rdO at k64 hQ0
  refine t_isSign (lo := 99) (hi := 99) hT ht hp (by decide) (by decide) (fun c => ⟨fun y => absurd y b1, fun _ => ⟨vp_in_nI (by omega) (by decide), fun M5 e5 => ?_⟩⟩) (fun c => ⟨fun _ => tm_readNumber (b := 4 * f) hT ht hp (fun M3 t3 f3 e3 => ⟨vp_in_nI (by omega) (by decide), vp_in_nI (by omega) (by decide), ?_⟩), fun y => absurd rfl y⟩)
  · rw [if_pos c] at k64
    have t5 : MTt (up2 M 82 (4 * f) (-5)) t p f := hT.w82
    rw [t5.2.1, nI_1] at e5
    refine k64 M5 (-5) rfl (by rw [e5]; exact t5.at) ?_ (by rw [e5]; exact ((FrQ.refl _ M).p82 (Nat.le_refl _)).p73 (Or.inl rfl))
    rw [e5, up2_ne _ _ _ (by decide)]; simp [up2]
  · rw [if_neg (by rw [c]; decide)] at k64 hQ0
    rw [show up2 M3 82 (4 * f) (oN (rdN t p).1) 82 (4 * f) = oN (rdN t p).1 by simp [up2]]
    refine ⟨fun z => ?_, fun z => ?_⟩
    · cases hk : (rdN t p).1 with
      | none => rw [hk] at z; exact absurd z (by decide)
      | some k =>
        rw [hk] at k64
        exact k64 _ (nI k) rfl t3.w82 (by simp [up2, oN]) (f3.p82 (Nat.le_refl _))
    · cases hk : (rdN t p).1 with
      | some k =>
        rw [hk] at z
        have := (rdN_v hp hk).1
        exact absurd (nI_pos' (by omega)) z
      | none =>
        rw [hk] at hQ0
        exact hQ0 rfl _ t3.w82 (f3.p82 (Nat.le_refl _))
theorem lM_all (ht : txOk t) (hQ1 : ∀ f rs p M1, (rdAll t).1 = some (f, rs) → MTt M1 t p f → (∀ i, i < f → XWM M1 i (rs i)) → FrQ 0 M0 M1 → Q (-1) M1 h D) (hQ0 : ∀ f M1, (rdAll t).1 = none → MTt M1 t (rdAll t).2 f → FrQ 0 M0 M1 → Q (nI (rdAll t).2) M1 h D) : ∀ (m p f : Nat) (rs : Nat → Rw) (M : Im), m + f = 61 → 0 < f → p ≤ t.1 → 3 * f ≤ p + 1 → MTt M t p f → (∀ i, i < f → XWM M i (rs i)) → FrQ 0 M0 M → rdAll t = rdA t m p f rs → EvI (d + 4) nX4_faultOf 15 [(0, .ref 73), (1, .int 1)] [] M h D Q
  | 0, p, f, rs, M, hm, hf0, hp, hf, hT, hX, hF, he => absurd ht.1 (by omega)
  | m + 1, p, f, rs, M, hm, hf0, hp, hf, hT, hX, hF, he => by
    have hL := ht.1
    refine R_X4_faultOf_15 ⟨fun z => absurd z b1, fun _ => ?_⟩
    unfold rdA at he
    rw [hT.1, hT.2.1]
    refine ⟨fun z => ⟨fun y => absurd y b1, fun _ => ?_⟩, fun z => ?_⟩
    · rw [if_neg (show ¬ p < t.1 from fun y => absurd ((nI_leI (by omega) (by omega)).mp z) (by omega))] at he
      exact hQ1 f rs p M (by rw [he]) hT hX hF
    · have hlt : p < t.1 := by
        rcases Nat.lt_or_ge p t.1 with y | y
        · exact y
        · exact absurd ((nI_leI (by omega) (by omega)).mpr y) z
      rw [if_pos hlt] at he
      have bad : ∀ (M2 : Im) (f2 q : Nat), rdAll t = (none, q) → MTt M2 t q f2 → FrQ 0 M0 M2 → EvI (d + 4) nX4_faultOf 15 [(0, .ref 73), (1, .int 0)] [] M2 h D Q := by
        intro M2 f2 q he2 t2 f2'
        have hq := hQ0 f2 M2 (by rw [he2]) (by rw [he2]; exact t2) f2'
        have hv : Q (M2 73 14) M2 h D := by
          rw [t2.2.1]; rw [he2] at hq; exact hq
        exact R_X4_faultOf_15 ⟨fun _ => ⟨fun _ => hv, fun y => absurd rfl y⟩, fun y => absurd rfl y⟩
      obtain ⟨c1, c2⟩ := ht.2 p hlt
      rw [nI_clamp (by omega), hT.2.2.2 p hlt, c1]
      refine ⟨vp_in_nI (by omega) (by decide), nn_if (fun c => R_X4_faultOf_49 ⟨fun _ => ?_, fun y => absurd rfl y⟩) (fun c => R_X4_faultOf_49 ⟨fun y => absurd y b1, fun _ => ?_⟩)⟩
      · have hns : ¬ sg t p 59 59 = true := fun y => c (by have := sg_t y; rw [show ch t p = 59 by omega]; rfl)
        rw [if_neg hns] at he
        exact bad M f p he hT hF
      · have hs : sg t p 59 59 = true := decide_eq_true ⟨hlt, by
          have := nI_inj' (b := 59) (by omega) (by decide) c; omega⟩
        rw [if_pos hs] at he
        have hq := rdW_p (t := t) (p := p + 1) hlt
        rw [hT.2.1, nI_1]
        have t1 := hT.at (q := p + 1)
        have f1 := hF.p73 (k := 14) (x := nI (p + 1)) (Or.inl rfl)
        refine tm_readDrawer t1 ht hlt (by omega) (fun w hw M2 t2 w2 r2 => ?_) (fun hw M2 t2 r2 => ?_)
        · rw [hw] at he
          have hv := rdW_v (p := p + 1) hlt hw
          refine lM_all ht hQ1 hQ0 m (rdW t (p + 1)).2 (f + 1) (upW rs f w) M2 (by omega) (by omega) hq.2 (by omega) t2 (fun i hi => ?_) (f1.tr (r2.le (Nat.zero_le _))) he
          unfold upW
          by_cases e : i = f
          · rw [if_pos e, e]; exact w2
          · rw [if_neg e]
            obtain ⟨x1, x2, x3, x4⟩ := hX i (by omega)
            refine ⟨?_, ?_, ?_, ?_⟩
            · rw [r2.2.2 _ (by omega), up2_ne _ _ _ (by decide)]; exact x1
            · rw [r2.2.2 _ (by omega), up2_ne _ _ _ (by decide)]; exact x2
            · rw [r2.2.2 _ (by omega), up2_ne _ _ _ (by decide)]; exact x3
            · rw [r2.2.2 _ (by omega), up2_ne _ _ _ (by decide)]; exact x4
        · rw [hw] at he
          exact bad M2 f _ he t2 (f1.tr (r2.le (Nat.zero_le _)))
theorem tM_fault (hL1 : M 73 10 = nI t.1) (hch : ∀ i, i < t.1 → M 83 i = t.2 i) (ht : txOk t) (hQ1 : ∀ f rs p M1, (rdAll t).1 = some (f, rs) → MTt M1 t p f → (∀ i, i < f → XWM M1 i (rs i)) → FrQ 0 M M1 → Q (-1) M1 h D) (hQ0 : ∀ f M1, (rdAll t).1 = none → MTt M1 t (rdAll t).2 f → FrQ 0 M M1 → Q (nI (rdAll t).2) M1 h D) : CI (d + 5) nX4_faultOf [.ref 73] M h D Q := by
  have hL := ht.1
  have t0 : MTt (up2 (up2 M 73 14 0) 73 15 0) t 0 0 := by
    refine ⟨?_, ?_, ?_, fun i hi => ?_⟩
    · rw [show up2 (up2 M 73 14 0) 73 15 0 73 10 = M 73 10 by simp [up2]]; exact hL1
    · simp [up2]; rfl
    · simp [up2]; rfl
    · rw [up2_ne _ _ _ (by decide), up2_ne _ _ _ (by decide)]; exact hch i hi
  have f0 : FrQ 0 M (up2 (up2 M 73 14 0) 73 15 0) := ((FrQ.refl 0 M).p73 (Or.inl rfl)).p73 (Or.inr rfl)
  have hq := rdW_p (t := t) (p := 0) (Nat.zero_le _)
  refine ci_of rfl rfl (R_X4_faultOf_0 (tm_readDrawer t0 ht (Nat.zero_le _) (by decide) (fun w hw M2 t2 w2 r2 => ?_) (fun hw M2 t2 r2 => ?_)))
  · have he : rdAll t = rdA t 60 (rdW t 0).2 1 (fun _ => w) := by unfold rdAll; rw [hw]
    have hv := rdW_v (Nat.zero_le _) hw
    exact lM_all (M0 := M) ht hQ1 hQ0 60 (rdW t 0).2 1 (fun _ => w) M2 rfl (by decide) hq.2 (by omega) t2 (fun i hi => by rw [show i = 0 by omega]; exact w2) (f0.tr (r2.le (Nat.zero_le _))) he
  · have he : rdAll t = (none, (rdW t 0).2) := by unfold rdAll; rw [hw]
    have hv : Q (M2 73 14) M2 h D := by
      have := hQ0 0 M2 (by rw [he]) (by rw [he]; exact t2) (f0.tr (r2.le (Nat.zero_le _)))
      rw [he] at this
      rw [t2.2.1]; exact this
    exact R_X4_faultOf_15 ⟨fun _ => ⟨fun _ => hv, fun y => absurd rfl y⟩, fun y => absurd rfl y⟩
end RA

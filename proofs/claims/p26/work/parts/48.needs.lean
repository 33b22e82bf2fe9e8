/-! what needs and hint answer, and that the class does -/
noncomputable def cB (n : Nat) (e : V) (d s : Nat) : Bool := dB (CLO n e d s)
noncomputable def cO (n : Nat) (e : V) (d : Nat) : Nat := nsum (fun k => i01 (cB n e d k)) 16
noncomputable def cT (n : Nat) (e : V) (d : Nat) : Nat := nsum (fun t => i01 (cB n e d (16 + t))) 12
noncomputable def cL1 (n : Nat) (e : V) (d k : Nat) : Nat := i01 (cB n e d (28 + 3 * k)) + i01 (cB n e d (28 + 3 * k + 1)) + i01 (cB n e d (28 + 3 * k + 2))
noncomputable def cL (n : Nat) (e : V) (d : Nat) : Nat := nsum (cL1 n e d) 16
def sl1 (e : V) (k : Nat) (b : Bool) : Bool := b && ((fd e k 1 == 3) && (fd e k 7 == 0))
noncomputable def cS (n : Nat) (e : V) (d : Nat) : Nat := nsum (fun k => i01 (sl1 e k (cB n e d k))) n
def bits (p : Nat → Bool) (m : Nat) : Int32 := foru (fun k => if p k = true then 1 <<< (nI k &&& 31) else 0) m
noncomputable def rNeeds (n : Nat) (e : V) (d : Nat) (w : Int32) : Int32 :=
  if w = 0 then nI (cO n e d + cT n e d + cL n e d) else if w = 1 then bits (cB n e d) 16 else if w = 2 then bits (fun t => cB n e d (16 + t)) 12 else if w = 3 then nI (cL n e d) else nI (cS n e d)
noncomputable def opNeeds (n : Nat) (a : V) (v w : Int32) : Int32 :=
  if isD a v then if 0 ≤ w ∧ w ≤ 4 then if posB n a v.toNatClampNeg = true then rNeeds n a v.toNatClampNeg w else -4 else -2 else -1
/-- the first number from i on, m tried -/
def fst1 (p : Nat → Bool) : Nat → Nat → Option Nat
  | 0, _ => none
  | m + 1, i => if p i = true then some i else fst1 p m (i + 1)
noncomputable def rHint (n : Nat) (e : V) (d : Nat) : Int32 :=
  match fst1 (fun k => cB n e d k && canO e k) 16 0 with
  | some k => 100 + nI k
  | none => match fst1 (fun t => cB n e d (16 + t) && canT e t) 12 0 with
    | some t => 200 + nI t
    | none => match fst1 (fun k => cB n e d (28 + 3 * k + lfN e k) && canL e k) 16 0 with
      | some k => 300 + nI k
      | none => -5
noncomputable def opHint (n : Nat) (a : V) (v : Int32) : Int32 :=
  if isD a v then if a 1 = 1 then if posB n a v.toNatClampNeg = true then rHint n a v.toNatClampNeg else -4 else -4 else -1
theorem fst1_s {p : Nat → Bool} {m i : Nat} : fst1 p (m + 1) i = if p i = true then some i else fst1 p m (i + 1) := rfl
theorem fst1_w {p p2 : Nat → Bool} : ∀ m i, (∀ k, i ≤ k → k < i + m → p k = p2 k) → fst1 p m i = fst1 p2 m i
  | 0, _, _ => rfl
  | m + 1, i, h => by unfold fst1; rw [h i (by omega) (by omega), fst1_w m (i + 1) (fun k h1 h2 => h k (by omega) (by omega))]
theorem fst1_no {p : Nat → Bool} : ∀ m i, (∀ k, i ≤ k → k < i + m → p k = false) → fst1 p m i = none
  | 0, _, _ => rfl
  | m + 1, i, h => by unfold fst1; rw [h i (by omega) (by omega), if_neg (by decide), fst1_no m (i + 1) (fun k h1 h2 => h k (by omega) (by omega))]
section ND2
variable {d n q dr k t : Nat} {M : Im} {h : Hm} {D : Dm} {e : V} {P : Pn} {A : Ab} {v w : Int32} {Q : Int32 → Im → Hm → Dm → Prop}
/-- the plan is what is needed -/
def EXA (n : Nat) (e : V) (d : Nat) (P : Pn) : Prop := SND n e d P ∧ ∀ s, CLO n e d s → has e P s
theorem EXA.o (h : EXA n e dr P) (hk : k < 16) : P.1 k = cB n e dr k := by
  refine (dB_b ⟨fun z => (h.1.1 k hk z).2.2, fun z => ?_⟩).symm
  rcases h.2 k z with ⟨a, b⟩ | ⟨j, a, b, c⟩ | ⟨k2, i, a, b, c, d, f⟩
  · exact b
  · omega
  · omega
theorem EXA.tk (h : EXA n e dr P) (ht : t < 12) : P.2.1 t = cB n e dr (16 + t) := by
  refine (dB_b ⟨fun z => (h.1.2.1 t ht z).2, fun z => ?_⟩).symm
  rcases h.2 _ z with ⟨a, b⟩ | ⟨j, a, b, c⟩ | ⟨k2, i, a, b, c, d, f⟩
  · omega
  · obtain rfl : t = j := by omega
    exact c
  · omega
theorem EXA.l (h : EXA n e dr P) (hk : k < 16) {i : Nat} (hi : i < 3) : decide (lfN e k ≤ i ∧ i < P.2.2 k) = cB n e dr (28 + 3 * k + i) := by
  refine (dB_b ?_).symm
  rw [decide_eq_true_eq]
  refine ⟨fun z => (h.1.2.2 k hk).2 i z.1 z.2, fun z => ?_⟩
  rcases h.2 _ z with ⟨a, b⟩ | ⟨j, a, b, c⟩ | ⟨k2, j, a, b, c, d, f⟩
  · omega
  · omega
  · obtain ⟨rfl, rfl⟩ : k2 = k ∧ j = i := by omega
    exact ⟨d, f⟩
theorem EXA.l3 (h : EXA n e dr P) (hw : wf n e) (hk : k < 16) : P.2.2 k - lfN e k = cL1 n e dr k := by
  have h3 := h.1.lt3 hw hk
  unfold cL1
  rw [show 28 + 3 * k = 28 + 3 * k + 0 from rfl, ← h.l hk (i := 0) (by decide), ← h.l hk (i := 1) (by decide), show 28 + 3 * k + 0 + 2 = 28 + 3 * k + 2 from rfl, ← h.l hk (i := 2) (by decide)]
  unfold i01
  simp only [decide_eq_true_eq]
  by_cases c0 : lfN e k ≤ 0 ∧ 0 < P.2.2 k
  · by_cases c1 : lfN e k ≤ 1 ∧ 1 < P.2.2 k
    · by_cases c2 : lfN e k ≤ 2 ∧ 2 < P.2.2 k
      · rw [if_pos c0, if_pos c1, if_pos c2]; omega
      · rw [if_pos c0, if_pos c1, if_neg c2]; omega
    · by_cases c2 : lfN e k ≤ 2 ∧ 2 < P.2.2 k
      · rw [if_pos c0, if_neg c1, if_pos c2]; omega
      · rw [if_pos c0, if_neg c1, if_neg c2]; omega
  · by_cases c1 : lfN e k ≤ 1 ∧ 1 < P.2.2 k
    · by_cases c2 : lfN e k ≤ 2 ∧ 2 < P.2.2 k
      · rw [if_neg c0, if_pos c1, if_pos c2]; omega
      · rw [if_neg c0, if_pos c1, if_neg c2]; omega
    · by_cases c2 : lfN e k ≤ 2 ∧ 2 < P.2.2 k
      · rw [if_neg c0, if_neg c1, if_pos c2]; omega
      · rw [if_neg c0, if_neg c1, if_neg c2]; omega
theorem EXA.cnt (h : EXA n e dr P) (hw : wf n e) : nsum (fun k => P.2.2 k - lfN e k) 16 = cL n e dr ∧ cntP e P = cO n e dr + cT n e dr + cL n e dr := by
  have h3 : nsum (fun k => P.2.2 k - lfN e k) 16 = cL n e dr := nsum_w (fun k hk => h.l3 hw hk)
  have h1 : nsum (fun k => i01 (P.1 k)) 16 = cO n e dr := nsum_w (fun k hk => by rw [h.o hk])
  have h2 : nsum (fun k => i01 (P.2.1 k)) 12 = cT n e dr := nsum_w (fun k hk => by rw [h.tk hk])
  unfold cntP
  rw [h1, h2, h3]
  exact ⟨rfl, rfl⟩
theorem EXA.hi (h : EXA n e dr P) (hk : k < 16) (hn : n ≤ k) : cB n e dr k = false := by
  rw [← h.o hk]
  cases hp : P.1 k
  · rfl
  · have := (h.1.1 k hk hp).1; omega
theorem lS_seals {x : Int32} (hR : RS M 1 e q) (hw : wf n e) (hE : EXA n e dr P) (hx : bset x 16 P.1) (hQ : Q (nI (cS n e dr)) M h D) : ∀ (m i : Nat), i + m = n → EvI (d + 1) nX2_countWholeSeals 4 [(0, .ref 1), (1, .int x), (2, .int (nI (nsum (fun k => i01 (sl1 e k (cB n e dr k))) i))), (3, .int (nI i))] [] M h D Q
  | 0, i, hi => by
    have hn := hw.n16
    obtain rfl : i = n := by omega
    refine R_X2_countWholeSeals_4 (Or.inl rfl) ?_
    rw [hR.1, hw.a0]
    exact ⟨fun _ => hQ, fun c => absurd ((nI_leI (by omega) (by omega)).mpr (Nat.le_refl _)) c⟩
  | m + 1, i, hi => by
    have hn := hw.n16
    have hi16 : i < 16 := by omega
    refine R_X2_countWholeSeals_4 (Or.inl rfl) ?_
    rw [hR.1, hw.a0]
    have hh := lS_seals hR hw hE hx hQ m (i + 1) (by omega)
    unfold nsum at hh
    rw [nI_1]
    refine ⟨fun c => absurd ((nI_leI (by omega) (by omega)).mp c) (by omega), fun _ => t_isIn hx hi16 (by decide) (b2i_if (fun c => ?_) (fun c => ⟨kvp hi16 (by decide), ?_⟩))⟩
    · rw [hE.o hi16] at c
      rw [c, show i01 (sl1 e i false) = 0 from rfl, Nat.add_zero] at hh; exact hh
    · rw [hE.o hi16] at c
      rw [kcl hi16, show M (1 + 2) i = fd e i 1 from (hR.2.2.2.2.2.2.2.1 i hi16).2.1]
      refine nn_if (fun c2 => ?_) (fun c2 => t_isIn hR.2.2.2.2.2.1 hi16 (by decide) (b2i_ifn (fun c3 => ?_) (fun c3 => ?_)))
      · rw [c, show sl1 e i true = false by unfold sl1; rw [show (fd e i 1 == 3) = false by simpa using c2]; rfl, show i01 false = 0 from rfl, Nat.add_zero] at hh; exact hh
      · rw [c, show sl1 e i true = false by
          unfold sl1
          rw [show (fd e i 7 == 0) = false by rw [show fd e i 7 = 1 by simpa using c3]; rfl, Bool.and_false, Bool.and_false], show i01 false = 0 from rfl, Nat.add_zero] at hh; exact hh
      · rw [c, show sl1 e i true = true by
          unfold sl1
          rw [show (fd e i 7 == 0) = true by rw [(hw.zo.1 i hi16).2.resolve_right (by simpa using c3)]; rfl, show (fd e i 1 == 3) = true by simpa using c2]; rfl, show i01 true = 1 from rfl, ← nI_1] at hh; exact hh
theorem X_needs (hw : wf n A.1.1) (hI : IX M h A) (hQ : ∀ M1, IX M1 h A → FrX M M1 → Q (opNeeds n A.1.1 v w) M1 h D) : CI (d + 7) nX3_needs [.ref 0, .int v, .int w] M h D Q := by
  have hR := hI.1
  have s1 : St 1 := Or.inl rfl
  have hn := hw.n16
  unfold opNeeds at hQ
  refine ci_of rfl rfl (R_X3_needs_0 (t_isThere s1 (hR.1.trans hw.a0) hw.n16 (fun k hk e => ⟨fun _ => ⟨fun c => ?_, fun c => ⟨fun c2 => ?_, fun c2 => ?_⟩⟩, fun z => absurd b1 z⟩) (fun c => ⟨fun z => absurd rfl z, fun _ => ?_⟩)))
  · subst e
    rw [if_pos (isD_of hw.a0 hw.n16 hk), if_neg (fun z => absurd c (Int32.not_lt.mpr z.1))] at hQ; exact hQ M hI (FrX.refl M)
  · subst e
    have c3 : 0 ≤ w ∧ w ≤ 4 := ⟨Int32.not_lt.mp c, c2⟩
    rw [if_pos (isD_of hw.a0 hw.n16 hk), if_pos c3, kcl (by omega)] at hQ
    refine tX_canComeTo hw hI hk (fun M1 i1 f1 => b2i_ifn (fun c4 => ?_) (fun c4 => ?_))
    · rw [if_pos c4] at hQ
      refine tP_make i1.1 hw hk (dB_t.mp c4) (fun M2 P p2 s2 l2 f2 => ?_)
      have hE : EXA n A.1.1 k P := ⟨s2, l2⟩
      have r2 := RS_p i1.1 f2
      have i2 : IX M2 h A := IX_fr i1 (fun c _ h1 _ => f2 c (by omega) (by omega))
      have hq := hQ M2 i2 (f1.tr (fun c hc => f2 c (by omega) (by omega)))
      obtain ⟨k1, k2⟩ := hE.cnt hw
      obtain ⟨j, hj, rfl⟩ := rng (m := 4) c3 (by decide)
      unfold rNeeds at hq
      refine ⟨fun c5 => ?_, fun c5 => ?_, fun c5 => ?_, fun c5 => ?_, fun c5 => ?_⟩
      · rw [nI_toInt (by omega)] at c5
        obtain rfl : j = 4 := by omega
        rw [if_neg (by decide), if_neg (by decide), if_neg (by decide), if_neg (by decide)] at hq
        refine ci_of rfl rfl (R_X2_countWholeSeals_0 s1 ?_)
        exact lS_seals r2 hw hE p2.1 hq n 0 (by omega)
      · rw [if_pos c5] at hq
        refine tP_cnt r2 hw p2 s2 ?_
        rw [k2]; exact hq
      · rw [if_neg (by rw [c5]; decide), if_pos c5] at hq
        rw [show M2 29 0 = bits (cB n A.1.1 k) 16 from bs_ext p2.1 (bs_foru 16 (by decide)) (fun i hi => hE.o hi)]
        exact hq
      · rw [if_neg (by rw [c5]; decide), if_neg (by rw [c5]; decide), if_pos c5] at hq
        rw [show M2 29 1 = bits (fun t => cB n A.1.1 k (16 + t)) 12 from bs_ext p2.2.1 (bs_foru 12 (by decide)) (fun i hi => hE.tk hi)]
        exact hq
      · rw [if_neg (by rw [c5]; decide), if_neg (by rw [c5]; decide), if_neg (by rw [c5]; decide), if_pos c5] at hq
        refine tP_cntL r2 hw p2 s2 ?_
        rw [k1]; exact hq
    · rw [if_neg (by rw [c4]; decide)] at hQ; exact hQ M1 i1 f1
  · subst e
    rw [if_pos (isD_of hw.a0 hw.n16 hk), if_neg (fun z => c2 z.2)] at hQ; exact hQ M hI (FrX.refl M)
  · rw [if_neg (isD_no hw.a0 hw.n16 c)] at hQ; exact hQ M hI (FrX.refl M)
/-- the hint, its three searches -/
theorem lX_h3 {v2 : Int32} (hR : RS M 1 e q) (hw : wf n e) (hP : PS M P) (hE : EXA n e dr P) (hQ : Q (match fst1 (fun k => cB n e dr (28 + 3 * k + lfN e k) && canL e k) 16 0 with | some k => 300 + nI k | none => -5) M h D) : ∀ (m i : Nat), i + m = 16 → fst1 (fun k => cB n e dr (28 + 3 * k + lfN e k) && canL e k) 16 0 = fst1 (fun k => cB n e dr (28 + 3 * k + lfN e k) && canL e k) m i → EvI (d + 3) nX1_firstStep 78 [(0, .ref 29), (1, .ref 1), (2, .int v2), (3, .int (nI i))] [] M h D Q
  | 0, i, hi, hf => by
    obtain rfl : i = 16 := by omega
    rw [hf] at hQ
    exact R_X1_firstStep_78 ⟨fun _ => hQ, fun c => absurd ((nI_leI (a := 16) (by omega) (by omega)).mpr (by omega)) c⟩
  | m + 1, i, hi, hf => by
    have hi16 : i < 16 := by omega
    have hn := hw.n16
    rw [fst1_s (m := m) (i := i)] at hf
    have skip : (cB n e dr (28 + 3 * i + lfN e i) && canL e i) = false → EvI (d + 3) nX1_firstStep 78 [(0, .ref 29), (1, .ref 1), (2, .int v2), (3, .int (nI (i + 1)))] [] M h D Q := fun hc => by
      rw [if_neg (by rw [hc]; decide)] at hf
      exact lX_h3 hR hw hP hE hQ m (i + 1) (by omega) hf
    refine R_X1_firstStep_78 ⟨fun c => absurd ((nI_leI (a := 16) (by omega) (by omega)).mp c) (by omega), fun _ => t_liftIn hR hw hi16 hP hE.1 (b2i_if (fun c => ?_) (fun c => ?_))⟩
    · rw [nI_1]
      refine skip ?_
      cases hL : canL e i
      · rw [Bool.and_false]
      · rw [Bool.and_true]
        have h1 := of_decide_eq_false c
        have hin : i < n := by
          rcases Nat.lt_or_ge i n with z | z
          · exact z
          · have := (hw.zr i z hi16).2.2.1
            rw [(canL_t hL).1] at this; exact absurd this (by decide)
        obtain ⟨b, hb, b1', b2⟩ := wf_bm hw hi16
        have h2 := (canL_t hL).2.2.1
        rw [(wf_lf hw hi16).1, b1'] at h2
        have h3 := (nI_ltI (by have := lf3 hw hi16; omega) (by omega)).mp h2
        rw [← hE.l hi16 (i := lfN e i) (by omega)]
        exact decide_eq_false (fun z => h1 z.2)
    · have h1 := of_decide_eq_true c
      have hin : i < n := by
        rcases Nat.lt_or_ge i n with z | z
        · exact z
        · have h1' := (hE.1.2.2 i hi16).1
          have h2 : bmN e i = 0 := by unfold bmN; rw [(hw.zr i z hi16).1]; decide
          omega
      have h3 := hE.1.lt3 hw hi16
      have hc : cB n e dr (28 + 3 * i + lfN e i) = true := by
        rw [← hE.l hi16 (i := lfN e i) (by omega)]
        exact decide_eq_true ⟨Nat.le_refl _, h1⟩
      refine tS_canLift (Or.inl rfl) hR hw.a0 hw.out hn hin (b2i_if (fun c2 => ?_) (fun c2 => ?_))
      · rw [nI_1]
        exact skip (by rw [c2, Bool.and_false])
      · rw [if_pos (by rw [hc, c2]; rfl)] at hf
        rw [hf] at hQ; exact hQ
theorem lX_h2 {v2 : Int32} (hR : RS M 1 e q) (hw : wf n e) (hP : PS M P) (hE : EXA n e dr P) (hQ : Q (match fst1 (fun t => cB n e dr (16 + t) && canT e t) 12 0 with | some t => 200 + nI t | none => match fst1 (fun k => cB n e dr (28 + 3 * k + lfN e k) && canL e k) 16 0 with | some k => 300 + nI k | none => -5) M h D) : ∀ (m i : Nat), i + m = 12 → fst1 (fun t => cB n e dr (16 + t) && canT e t) 12 0 = fst1 (fun t => cB n e dr (16 + t) && canT e t) m i → EvI (d + 3) nX1_firstStep 39 [(0, .ref 29), (1, .ref 1), (2, .int v2), (3, .int (nI i))] [] M h D Q
  | 0, i, hi, hf => by
    obtain rfl : i = 12 := by omega
    rw [hf] at hQ
    exact R_X1_firstStep_39 ⟨fun _ => lX_h3 hR hw hP hE hQ 16 0 rfl rfl, fun c => absurd ((nI_leI (a := 12) (by omega) (by omega)).mpr (by omega)) c⟩
  | m + 1, i, hi, hf => by
    have hi12 : i < 12 := by omega
    have hn := hw.n16
    rw [fst1_s (m := m) (i := i)] at hf
    have skip : (cB n e dr (16 + i) && canT e i) = false → EvI (d + 3) nX1_firstStep 39 [(0, .ref 29), (1, .ref 1), (2, .int v2), (3, .int (nI (i + 1)))] [] M h D Q := fun hc => by
      rw [if_neg (by rw [hc]; decide)] at hf
      exact lX_h2 hR hw hP hE hQ m (i + 1) (by omega) hf
    refine R_X1_firstStep_39 ⟨fun c => absurd ((nI_leI (a := 12) (by omega) (by omega)).mp c) (by omega), fun _ => t_isIn hP.2.1 hi12 (by decide) (b2i_if (fun c => ?_) (fun c => tS_canTake (Or.inl rfl) hR hw.a0 hw.out hw.th hw.zo hn hi12 (b2i_if (fun c2 => ?_) (fun c2 => ?_))))⟩
    · rw [nI_1]
      exact skip (by rw [← hE.tk hi12, c]; rfl)
    · rw [nI_1]
      exact skip (by rw [c2, Bool.and_false])
    · rw [if_pos (by rw [← hE.tk hi12, c, c2]; rfl)] at hf
      rw [hf] at hQ; exact hQ
theorem lX_h1 {x : Int32} (hR : RS M 1 e q) (hw : wf n e) (hP : PS M P) (hE : EXA n e dr P) (hx : bset x 16 (fun k => cB n e dr k && canO e k)) (hQ : Q (rHint n e dr) M h D) : ∀ (m i : Nat), i + m = 16 → fst1 (fun k => cB n e dr k && canO e k) 16 0 = fst1 (fun k => cB n e dr k && canO e k) m i → EvI (d + 3) nX1_firstStep 12 [(0, .ref 29), (1, .ref 1), (2, .int x), (3, .int (nI i))] [] M h D Q
  | 0, i, hi, hf => by
    obtain rfl : i = 16 := by omega
    unfold rHint at hQ
    rw [hf] at hQ
    exact R_X1_firstStep_12 ⟨fun _ => lX_h2 hR hw hP hE hQ 12 0 rfl rfl, fun c => absurd ((nI_leI (a := 16) (by omega) (by omega)).mpr (by omega)) c⟩
  | m + 1, i, hi, hf => by
    have hi16 : i < 16 := by omega
    rw [fst1_s (m := m) (i := i)] at hf
    refine R_X1_firstStep_12 ⟨fun c => absurd ((nI_leI (a := 16) (by omega) (by omega)).mp c) (by omega), fun _ => t_isIn hx hi16 (by decide) (b2i_if (fun c => ?_) (fun c => ?_))⟩
    · rw [nI_1]
      rw [if_neg (by rw [c]; decide)] at hf
      exact lX_h1 hR hw hP hE hx hQ m (i + 1) (by omega) hf
    · rw [if_pos c] at hf
      unfold rHint at hQ
      rw [hf] at hQ; exact hQ
theorem bs_and {x y : Int32} {m : Nat} {p p2 : Nat → Bool} (hx : bset x m p) (hy : bset y m p2) : bset (x &&& y) m (fun k => p k && p2 k) := fun i hi => by
  rw [b_and, hx i hi, hy i hi]
  by_cases z : i < m
  · simp [z]
  · simp [z]
theorem bs_more {x : Int32} {m m2 : Nat} {p : Nat → Bool} (h : m ≤ m2) (hx : bset x m p) : bset x m2 (fun k => decide (k < m) && p k) := fun i hi => by
  rw [hx i hi]
  by_cases z : i < m
  · simp [z, show i < m2 by omega]
  · simp [z]
theorem X_hint (hw : wf n A.1.1) (hI : IX M h A) (hQ : ∀ M1, IX M1 h A → FrX M M1 → Q (opHint n A.1.1 v) M1 h D) : CI (d + 7) nX3_hint [.ref 0, .int v] M h D Q := by
  have hR := hI.1
  have s1 : St 1 := Or.inl rfl
  have hn := hw.n16
  unfold opHint at hQ
  refine ci_of rfl rfl (R_X3_hint_0 (t_isThere s1 (hR.1.trans hw.a0) hw.n16 (fun k hk e => ⟨fun _ => ⟨fun c => ?_, fun c => ?_⟩, fun z => absurd b1 z⟩) (fun c => ⟨fun z => absurd rfl z, fun _ => ?_⟩)))
  · subst e
    rw [hR.2.1] at c
    rw [if_pos (isD_of hw.a0 hw.n16 hk), if_neg (by rw [c]; decide)] at hQ; exact hQ M hI (FrX.refl M)
  · subst e
    rw [hR.2.1] at c
    rw [if_pos (isD_of hw.a0 hw.n16 hk), if_pos (hw.a1.resolve_left c), kcl (by omega)] at hQ
    refine tX_canComeTo hw hI hk (fun M1 i1 f1 => b2i_ifn (fun c4 => ?_) (fun c4 => ?_))
    · rw [if_pos c4] at hQ
      refine tP_make i1.1 hw hk (dB_t.mp c4) (fun M2 P p2 s2 l2 f2 => ?_)
      have hE : EXA n A.1.1 k P := ⟨s2, l2⟩
      have r2 := RS_p i1.1 f2
      have i2 : IX M2 h A := IX_fr i1 (fun c _ h1 _ => f2 c (by omega) (by omega))
      have hq := hQ M2 i2 (f1.tr (fun c hc => f2 c (by omega) (by omega)))
      refine ci_of rfl rfl (R_X1_firstStep_0 (tS_openableNow s1 r2 hw.a0 hw.out hw.by' hw.zo hn ?_))
      refine lX_h1 r2 hw p2 hE (bs_w (bs_and p2.1 (bs_more hn (bs_foru n (by omega)))) (fun i hi => ?_)) hq 16 0 rfl rfl
      rw [hE.o hi]
      by_cases z : i < n
      · rw [decide_eq_true z, Bool.true_and]
      · rw [hE.hi hi (by omega)]; rfl
    · rw [if_neg (by rw [c4]; decide)] at hQ; exact hQ M1 i1 f1
  · rw [if_neg (isD_no hw.a0 hw.n16 c)] at hQ; exact hQ M hI (FrX.refl M)
end ND2

/-! THE CLASS's Plan, 2: all needs, counts, make -/
theorem nsum_eq {f g : Nat → Nat} : ∀ m, (∀ i, i < m → f i ≤ g i) → nsum g m ≤ nsum f m → ∀ i, i < m → f i = g i
  | 0, _, _, i, hi => absurd hi (Nat.not_lt_zero i)
  | m + 1, h, hl, i, hi => by
    have h1 := nsum_mono (m := m) (fun i hi => h i (by omega))
    have h2 := h m (by omega)
    unfold nsum at hl
    by_cases e : i = m
    · rw [e]; omega
    · exact nsum_eq m (fun i hi => h i (by omega)) (by omega) i (by omega)
def i01 (b : Bool) : Nat := if b = true then 1 else 0
def cntP (e : V) (P : Pn) : Nat := nsum (fun k => i01 (P.1 k)) 16 + nsum (fun t => i01 (P.2.1 t)) 12 + nsum (fun k => P.2.2 k - lfN e k) 16
theorem i01_inj {a b : Bool} (h : i01 a = i01 b) : a = b := by cases a <;> cases b <;> first | rfl | exact absurd h (by decide)
theorem i01_le {a b : Bool} (h : a = true → b = true) : i01 a ≤ i01 b := by cases a <;> cases b <;> first | decide | exact absurd (h rfl) (by decide)
theorem i01_1 (a : Bool) : i01 a ≤ 1 := by cases a <;> decide
theorem LEP.cnt {e : V} {P P1 : Pn} (h : LEP P P1) : cntP e P ≤ cntP e P1 := by
  have h1 : nsum (fun k => i01 (P.1 k)) 16 ≤ nsum (fun k => i01 (P1.1 k)) 16 := nsum_mono (fun i hi => i01_le (h.1 i hi))
  have h2 : nsum (fun k => i01 (P.2.1 k)) 12 ≤ nsum (fun k => i01 (P1.2.1 k)) 12 := nsum_mono (fun i hi => i01_le (h.2.1 i hi))
  have h3 : nsum (fun k => P.2.2 k - lfN e k) 16 ≤ nsum (fun k => P1.2.2 k - lfN e k) 16 := nsum_mono (fun i hi => by have := h.2.2 i hi; omega)
  unfold cntP; omega
theorem lep_back {e : V} {P P1 : Pn} (h : LEP P P1) (hc : cntP e P1 ≤ cntP e P) {s : Nat} (hs : has e P1 s) : has e P s := by
  have h1 : nsum (fun k => i01 (P.1 k)) 16 ≤ nsum (fun k => i01 (P1.1 k)) 16 := nsum_mono (fun i hi => i01_le (h.1 i hi))
  have h2 : nsum (fun k => i01 (P.2.1 k)) 12 ≤ nsum (fun k => i01 (P1.2.1 k)) 12 := nsum_mono (fun i hi => i01_le (h.2.1 i hi))
  have h3 : nsum (fun k => P.2.2 k - lfN e k) 16 ≤ nsum (fun k => P1.2.2 k - lfN e k) 16 := nsum_mono (fun i hi => by have := h.2.2 i hi; omega)
  unfold cntP at hc
  have g1 := nsum_eq 16 (f := fun k => i01 (P.1 k)) (g := fun k => i01 (P1.1 k)) (fun i hi => i01_le (h.1 i hi)) (by omega)
  have g2 := nsum_eq 12 (f := fun k => i01 (P.2.1 k)) (g := fun k => i01 (P1.2.1 k)) (fun i hi => i01_le (h.2.1 i hi)) (by omega)
  have g3 := nsum_eq 16 (f := fun k => P.2.2 k - lfN e k) (g := fun k => P1.2.2 k - lfN e k) (fun i hi => by have := h.2.2 i hi; show P.2.2 i - lfN e i ≤ P1.2.2 i - lfN e i; omega) (by omega)
  rcases hs with ⟨a, b⟩ | ⟨j, a, b, c⟩ | ⟨k, i, a, b, c, d, f⟩
  · exact Or.inl ⟨a, by rw [i01_inj (g1 s a)]; exact b⟩
  · exact Or.inr (Or.inl ⟨j, a, b, by rw [i01_inj (g2 j b)]; exact c⟩)
  · refine Or.inr (Or.inr ⟨k, i, a, b, c, d, ?_⟩)
    have := g3 k b
    omega
theorem fs_nI (p : Nat → Bool) : ∀ m, fsum (fun i => b2i (p i)) m = nI (nsum (fun i => i01 (p i)) m)
  | 0 => rfl
  | m + 1 => by
    unfold fsum nsum
    rw [fs_nI p m, ← nI_add]
    congr 1
    cases p m <;> rfl
theorem clx {a b : Nat} (ha : a < 100) (hb : b < 100) : (if 0 < nI a - nI b then nI a - nI b else 0) = nI (a - b) := by
  rcases Nat.lt_or_ge b a with z | z
  · rw [nI_sub' (by omega), if_pos (show (0 : Int32) < nI (a - b) from (nI_ltI (a := 0) (by decide) (by omega)).mpr (by omega))]
  · have h1 := pk_sub_toInt (a := a) (b := b) (by omega) (by omega)
    rw [if_neg (fun y => by
      have h2 := Int32.lt_iff_toInt_lt.mp y
      rw [show (0 : Int32).toInt = 0 by decide, h1] at h2
      omega), show a - b = 0 by omega]
    rfl
section PB
variable {d n q dr k t : Nat} {M M0 : Im} {h : Hm} {D : Dm} {e : V} {P P0 : Pn}
theorem SND.lt3 (hS : SND n e dr P) (hw : wf n e) (hk : k < 16) : P.2.2 k ≤ 3 := by
  obtain ⟨b, hb, -, b2⟩ := wf_bm hw hk
  have := (hS.2.2 k hk).1
  omega
theorem lf3 (hw : wf n e) (hk : k < 16) : lfN e k ≤ 3 := by
  obtain ⟨b, hb, -, b2⟩ := wf_bm hw hk
  have := (wf_lf hw hk).2
  omega
theorem t_liftIn {Q : Int32 → Im → Hm → Dm → Prop} (hR : RS M 1 e q) (hw : wf n e) (hk : k < 16) (hP : PS M P) (hS : SND n e dr P) (hQ : Q (b2i (decide (lfN e k < P.2.2 k))) M h D) : CI (d + 1) nX1_isLiftingIn [.ref 29, .ref 1, .int (nI k)] M h D Q := by
  have h1 := hS.lt3 hw hk
  have h2 := lf3 hw hk
  refine ci_of rfl rfl (R_X1_isLiftingIn_0 ⟨kvp hk (by decide), kvp hk (by decide), ?_⟩)
  rw [kcl hk, hP.2.2 k hk, show M 7 k = fd e k 5 from (hR.2.2.2.2.2.2.2.1 k hk).2.2.2.2.2, (wf_lf hw hk).1]
  refine ⟨fun c => ?_, fun c => ?_⟩
  · rw [decide_eq_false (fun z => absurd ((nI_leI (by omega) (by omega)).mp c) (by omega))] at hQ; exact hQ
  · rw [decide_eq_true (by
      rcases Nat.lt_or_ge (lfN e k) (P.2.2 k) with z | z
      · exact z
      · exact absurd ((nI_leI (by omega) (by omega)).mpr z) c)] at hQ; exact hQ
/-- what is done of P0's needs, up to drawer i -/
def DND (n : Nat) (e : V) (P0 : Pn) (i : Nat) (P : Pn) : Prop := LEP P0 P ∧ (∀ k, k < i → P0.1 k = true → ∀ t, t < 76 → ND n e k t → has e P t) ∧ ∀ k j, k < i → j < 3 → lfN e k ≤ j → j < P0.2.2 k → ∀ t, t < 76 → ND n e (28 + 3 * k + j) t → has e P t
theorem DND.up {i : Nat} {P1 : Pn} (h : DND n e P0 i P) (hl : LEP P P1) : DND n e P0 i P1 := ⟨h.1.tr hl, fun k hk z t ht hn => hl.has (h.2.1 k hk z t ht hn), fun k j hk hj z1 z2 t ht hn => hl.has (h.2.2 k j hk hj z1 z2 t ht hn)⟩
theorem lP_all2 {Q : Im → Hm → Dm → Prop} (hw : wf n e) (hQ : ∀ M1 P1, PS M1 P1 → SND n e dr P1 → LEP P0 P1 → (∀ s t, has e P0 s → t < 76 → ND n e s t → has e P1 t) → FrP M0 M1 → Q M1 h D) : ∀ (m i : Nat) (M : Im) (P : Pn), RS M 1 e q → i + m = 12 → PS M P → SND n e dr P → DND n e P0 16 P → (∀ t, t < i → P0.2.1 t = true → ∀ u, u < 76 → ND n e (16 + t) u → has e P u) → FrP M0 M → EvV (d + 4) nX1_addNeedsOfAll 55 [(0, .ref 29), (1, .ref 1), (2, .int (nI i))] [] M h D Q
  | 0, i, M, P, hR, hi, hP, hS, hD, hT, hF => by
    obtain rfl : i = 12 := by omega
    refine R_X1_addNeedsOfAll_55 ⟨fun _ => hQ M P hP hS hD.1 (fun s t hs ht hn => ?_) hF, fun c => absurd ((nI_leI (a := 12) (by omega) (by omega)).mpr (by omega)) c⟩
    rcases hs with ⟨a, b⟩ | ⟨j, rfl, b, c⟩ | ⟨k, j, rfl, b, c, f, g⟩
    · exact hD.2.1 s a b t ht hn
    · exact hT j b c t ht hn
    · exact hD.2.2 k j b c f g t ht hn
  | m + 1, i, M, P, hR, hi, hP, hS, hD, hT, hF => by
    have hi12 : i < 12 := by omega
    refine R_X1_addNeedsOfAll_55 ⟨fun c => absurd ((nI_leI (a := 12) (by omega) (by omega)).mp c) (by omega), fun _ => t_isIn hP.2.1 hi12 (by decide) (b2i_if (fun c => ?_) (fun c => ?_))⟩
    · rw [nI_1]
      refine lP_all2 hw hQ m (i + 1) M P hR (by omega) hP hS hD (fun t ht z => ?_) hF
      by_cases y : t = i
      · rw [y] at z
        rw [hD.1.2.1 i hi12 z] at c; cases c
      · exact hT t (by omega) z
    · obtain ⟨c1, c2⟩ := hS.2.1 i hi12 c
      refine tP_needsT hR hw hi12 hP hS c1 c2 (fun M1 P1 p1 s1 l1 o1 f1 => ?_)
      rw [nI_1]
      refine lP_all2 hw hQ m (i + 1) M1 P1 (RS_p hR f1) (by omega) p1 s1 (hD.up l1) (fun t ht z => ?_) (hF.tr f1)
      by_cases y : t = i
      · rw [y]; exact o1
      · exact fun u hu hn => l1.has (hT t (by omega) z u hu hn)
theorem lP_all1 {Q : Im → Hm → Dm → Prop} (hw : wf n e) (hposs : ∀ s, CLO n e dr s → CANS n e s) (hQ : ∀ M1 P1, PS M1 P1 → SND n e dr P1 → LEP P0 P1 → (∀ s t, has e P0 s → t < 76 → ND n e s t → has e P1 t) → FrP M0 M1 → Q M1 h D) : ∀ (m i : Nat) (M : Im) (P : Pn), RS M 1 e q → i + m = 16 → PS M P → SND n e dr P → DND n e P0 i P → FrP M0 M → EvV (d + 4) nX1_addNeedsOfAll 2 [(0, .ref 29), (1, .ref 1), (2, .int (nI i))] [] M h D Q
  | 0, i, M, P, hR, hi, hP, hS, hD, hF => by
    obtain rfl : i = 16 := by omega
    exact R_X1_addNeedsOfAll_2 ⟨fun _ => lP_all2 hw hQ 12 0 M P hR rfl hP hS hD (fun t ht => absurd ht (Nat.not_lt_zero t)) hF, fun c => absurd ((nI_leI (a := 16) (by omega) (by omega)).mpr (by omega)) c⟩
  | m + 1, i, M, P, hR, hi, hP, hS, hD, hF => by
    have hi16 : i < 16 := by omega
    have hn := hw.n16
    have k25 : ∀ (M2 : Im) (P2 : Pn), RS M2 1 e q → PS M2 P2 → SND n e dr P2 → DND n e P0 i P2 → (P0.1 i = true → ∀ t, t < 76 → ND n e i t → has e P2 t) → FrP M0 M2 → EvV (d + 4) nX1_addNeedsOfAll 25 [(0, .ref 29), (1, .ref 1), (2, .int (nI i))] [] M2 h D Q := by
      intro M2 P2 hR2 hP2 hS2 hD2 hi2 hF2
      have nxt : ∀ (M3 : Im) (P3 : Pn), RS M3 1 e q → PS M3 P3 → SND n e dr P3 → LEP P2 P3 → (∀ j, j < 3 → lfN e i ≤ j → j < P0.2.2 i → ∀ t, t < 76 → ND n e (28 + 3 * i + j) t → has e P3 t) → FrP M0 M3 → EvV (d + 4) nX1_addNeedsOfAll 2 [(0, .ref 29), (1, .ref 1), (2, .int (nI (i + 1)))] [] M3 h D Q := by
        intro M3 P3 hR3 hP3 hS3 hl3 hi3 hF3
        refine lP_all1 hw hposs hQ m (i + 1) M3 P3 hR3 (by omega) hP3 hS3 ⟨hD2.1.tr hl3, fun k hk z t ht hnd => ?_, fun k j hk hj z1 z2 t ht hnd => ?_⟩ hF3
        · by_cases y : k = i
          · rw [y] at z hnd; exact hl3.has (hi2 z t ht hnd)
          · exact hl3.has (hD2.2.1 k (by omega) z t ht hnd)
        · by_cases y : k = i
          · rw [y] at z1 z2 hnd; exact hi3 j hj z1 z2 t ht hnd
          · exact hl3.has (hD2.2.2 k j (by omega) hj z1 z2 t ht hnd)
      refine R_X1_addNeedsOfAll_25 (t_liftIn hR2 hw hi16 hP2 hS2 (b2i_if (fun c => ?_) (fun c => ?_)))
      · rw [nI_1]
        refine nxt M2 P2 hR2 hP2 hS2 (LEP.refl P2) (fun j hj z1 z2 => ?_) hF2
        have h1 := of_decide_eq_false c
        have h2 := hD2.1.2.2 i hi16
        omega
      · have hlt := of_decide_eq_true c
        have hin : i < n := by
          rcases Nat.lt_or_ge i n with z | z
          · exact z
          · have h1 := (hS2.2.2 i hi16).1
            have h2 : bmN e i = 0 := by unfold bmN; rw [(hw.zr i z hi16).1]; decide
            omega
        have h3 := hS2.lt3 hw hi16
        have hb := (hS2.2.2 i hi16).1
        have hcl : CLO n e dr (28 + 3 * i + lfN e i) := (hS2.2.2 i hi16).2 _ (Nat.le_refl _) hlt
        have hnd : ∀ t, (way e i t ∨ (ft e 10 2 = 0 ∧ t = 26) ∨ ∃ i2, lfN e i ≤ i2 ∧ i2 < lfN e i ∧ t = 28 + 3 * i + i2) → ND n e (28 + 3 * i + lfN e i) t := fun t ht => Or.inr (Or.inr ⟨i, lfN e i, rfl, hin, Nat.le_refl _, by omega, ht⟩)
        refine tP_addWayInto hR2 hw hin hP2 hS2 (fun t ht => ?_) (fun M3 P3 p3 s3 l3 o3 f3 => tP_addTaking (t := 10) (RS_p hR2 f3) hw (by decide) p3 s3 (fun z => clo_step (by omega) (by decide) hcl (hnd 26 (Or.inr (Or.inl ⟨z, rfl⟩)))) (fun M4 P4 p4 s4 l4 o4 f4 => ?_))
        · have := way_lt hw.out hn hin ht
          exact clo_step (by omega) (by omega) hcl (hnd t (Or.inl ht))
        · rw [nI_1]
          refine nxt M4 P4 (RS_p (RS_p hR2 f3) f4) p4 s4 (l3.tr l4) (fun j hj z1 z2 t ht hnd2 => ?_) ((hF2.tr f3).tr f4)
          rcases hnd2 with hnd2 | ⟨j2, hj2, hnd2⟩ | ⟨k2, j2, hj2, hnd2⟩
          · have := hnd2.1; omega
          · have := hnd2.1; omega
          · have hk2 := hnd2.1
            have hj3 : j2 < 3 := by
              obtain ⟨b, hb3, -, b2⟩ := wf_bm hw (show k2 < 16 by omega)
              have := hnd2.2.2.1; omega
            obtain ⟨rfl, rfl⟩ : k2 = i ∧ j2 = j := by omega
            rcases hnd2.2.2.2 with z | ⟨z, rfl⟩ | ⟨i2, w1, w2, rfl⟩
            · have := way_lt hw.out hn hin z
              exact Or.inl ⟨by omega, l4.1 t (by omega) (o3 t z)⟩
            · exact Or.inr (Or.inl ⟨10, rfl, by decide, o4 z⟩)
            · have h5 := hD2.1.2.2 k2 hi16
              have h6 := l3.2.2 k2 hi16
              have h7 := l4.2.2 k2 hi16
              exact Or.inr (Or.inr ⟨k2, i2, rfl, hi16, by omega, w1, by omega⟩)
    refine R_X1_addNeedsOfAll_2 ⟨fun c => absurd ((nI_leI (a := 16) (by omega) (by omega)).mp c) (by omega), fun _ => t_isIn hP.1 hi16 (by decide) (b2i_if (fun c => ?_) (fun c => ?_))⟩
    · refine k25 M P hR hP hS hD (fun z => ?_) hF
      rw [hD.1.1 i hi16 z] at c; cases c
    · obtain ⟨c1, c2, c3⟩ := hS.1 i hi16 c
      refine tP_needsO hR hw c1 hP hS c2 c3 (cans_out (hposs _ c3)).1 (fun M1 P1 p1 s1 l1 o1 f1 => ?_)
      exact k25 M1 P1 (RS_p hR f1) p1 s1 (hD.up l1) (fun _ => o1) (hF.tr f1)
theorem tP_all {Q : Im → Hm → Dm → Prop} (hR : RS M 1 e q) (hw : wf n e) (hposs : ∀ s, CLO n e dr s → CANS n e s) (hP : PS M P) (hS : SND n e dr P) (hQ : ∀ M1 P1, PS M1 P1 → SND n e dr P1 → LEP P P1 → (∀ s t, has e P s → t < 76 → ND n e s t → has e P1 t) → FrP M M1 → Q M1 h D) : CV (d + 5) nX1_addNeedsOfAll [.ref 29, .ref 1] M h D Q :=
  cv_of rfl rfl (R_X1_addNeedsOfAll_0 (lP_all1 (P0 := P) (M0 := M) hw hposs hQ 16 0 M P hR rfl hP hS ⟨LEP.refl P, fun k hk => absurd hk (Nat.not_lt_zero k), fun k j hk => absurd hk (Nat.not_lt_zero k)⟩ (FrP.refl M)))
theorem lP_cnt {Q : Int32 → Im → Hm → Dm → Prop} (hR : RS M 1 e q) (hw : wf n e) (hP : PS M P) (hS : SND n e dr P) (hQ : Q (nI (nsum (fun k => P.2.2 k - lfN e k) 16)) M h D) : ∀ (m i : Nat), i + m = 16 → EvI (d + 1) nX1_countLiftings 4 [(0, .ref 29), (1, .ref 1), (2, .int (nI (nsum (fun k => P.2.2 k - lfN e k) i))), (3, .int (nI i))] [] M h D Q
  | 0, i, hi => by
    obtain rfl : i = 16 := by omega
    exact R_X1_countLiftings_4 ⟨fun _ => hQ, fun c => absurd ((nI_leI (a := 16) (by omega) (by omega)).mpr (by omega)) c⟩
  | m + 1, i, hi => by
    have hi16 : i < 16 := by omega
    have h1 := hS.lt3 hw hi16
    have h2 := lf3 hw hi16
    refine R_X1_countLiftings_4 ⟨fun c => absurd ((nI_leI (a := 16) (by omega) (by omega)).mp c) (by omega), fun _ => ⟨kvp hi16 (by decide), kvp hi16 (by decide), by omega, fun w2 e2 => ?_⟩⟩
    rw [kcl hi16, hP.2.2 i hi16, show M 7 i = fd e i 5 from (hR.2.2.2.2.2.2.2.1 i hi16).2.2.2.2.2, (wf_lf hw hi16).1, clx (by omega) (by omega), nI_add] at e2
    rw [e2, nI_1]
    exact lP_cnt hR hw hP hS hQ m (i + 1) (by omega)
theorem tP_cntL {Q : Int32 → Im → Hm → Dm → Prop} (hR : RS M 1 e q) (hw : wf n e) (hP : PS M P) (hS : SND n e dr P) (hQ : Q (nI (nsum (fun k => P.2.2 k - lfN e k) 16)) M h D) : CI (d + 2) nX1_countLiftings [.ref 29, .ref 1] M h D Q :=
  ci_of rfl rfl (R_X1_countLiftings_0 (lP_cnt hR hw hP hS hQ 16 0 rfl))
theorem tP_cnt {Q : Int32 → Im → Hm → Dm → Prop} (hR : RS M 1 e q) (hw : wf n e) (hP : PS M P) (hS : SND n e dr P) (hQ : Q (nI (cntP e P)) M h D) : CI (d + 3) nX1_countSteps [.ref 29, .ref 1] M h D Q := by
  refine ci_of rfl rfl (R_X1_countSteps_0 (t_bitCount hP.1 (by decide) (t_bitCount hP.2.1 (by decide) (tP_cntL hR hw hP hS ?_))))
  rw [fs_nI, fs_nI, nI_add, nI_add]
  exact hQ
theorem cnt76 (hw : wf n e) (hS : SND n e dr P) : cntP e P ≤ 76 := by
  have h1 : nsum (fun k => i01 (P.1 k)) 16 ≤ 16 * 1 := nsum_le (fun i _ => i01_1 _)
  have h2 : nsum (fun k => i01 (P.2.1 k)) 12 ≤ 12 * 1 := nsum_le (fun i _ => i01_1 _)
  have h3 : nsum (fun k => P.2.2 k - lfN e k) 16 ≤ 16 * 3 := nsum_le (fun i hi => by have := hS.lt3 hw hi; omega)
  unfold cntP; omega
def CLS (n : Nat) (e : V) (P : Pn) : Prop := ∀ s t, has e P s → t < 76 → ND n e s t → has e P t
theorem lP_make {Q : Im → Hm → Dm → Prop} {v2 : Int32} (hw : wf n e) (hposs : ∀ s, CLO n e dr s → CANS n e s) (hQ : ∀ M1 P1, PS M1 P1 → SND n e dr P1 → (∀ t, way e dr t → has e P1 t) → CLS n e P1 → FrP M0 M1 → Q M1 h D) : ∀ (m r b : Nat) (M : Im) (P : Pn), RS M 1 e q → r + m = 77 → r ≤ b → b ≤ 76 → PS M P → SND n e dr P → (∀ t, way e dr t → has e P t) → (cntP e P ≤ b → CLS n e P) → FrP M0 M → EvV (d + 5) nX1_make 42 [(0, .ref 29), (1, .ref 1), (2, .int v2), (3, .int (nI b)), (4, .int (nI r))] [] M h D Q
  | 0, r, b, M, P, hR, hr, hrb, hb, hP, hS, hsd, hcl, hF => absurd hrb (by omega)
  | m + 1, r, b, M, P, hR, hr, hrb, hb, hP, hS, hsd, hcl, hF => by
    have h76 := cnt76 hw hS
    refine R_X1_make_42 ⟨fun c => absurd ((nI_ltI (a := 76) (by omega) (by omega)).mp c) (by omega), fun _ => tP_cnt hR hw hP hS ⟨fun c => hQ M P hP hS hsd (hcl ((nI_leI (by omega) (by omega)).mp c)) hF, fun c => tP_cnt hR hw hP hS (tP_all hR hw hposs hP hS (fun M1 P1 p1 s1 l1 o1 f1 => ?_))⟩⟩
    have hlt : b < cntP e P := by
      rcases Nat.lt_or_ge b (cntP e P) with z | z
      · exact z
      · exact absurd ((nI_leI (by omega) (by omega)).mpr z) c
    rw [nI_1]
    exact lP_make hw hposs hQ m (r + 1) (cntP e P) M1 P1 (RS_p hR f1) (by omega) (by omega) h76 p1 s1 (fun t ht => l1.has (hsd t ht)) (fun hc s t hs ht hn => o1 s t (lep_back l1 hc hs) ht hn) (hF.tr f1)
theorem lP_zero {Q : Im → Hm → Dm → Prop} {v2 : Int32} (k12 : ∀ M1, PS M1 (fun _ => false, fun _ => false, fun _ => 0) → FrP M0 M1 → EvV d nX1_make 12 [(0, .ref 29), (1, .ref 1), (2, .int v2), (3, .int 16)] [] M1 h D Q) : ∀ (m i : Nat) (M : Im), i + m = 16 → M 29 0 = 0 → M 29 1 = 0 → (∀ k, k < i → M 30 k = 0) → FrP M0 M → EvV d nX1_make 12 [(0, .ref 29), (1, .ref 1), (2, .int v2), (3, .int (nI i))] [] M h D Q
  | 0, i, M, hi, h0, h1, hz, hF => by
    obtain rfl : i = 16 := by omega
    exact k12 M ⟨by rw [h0]; exact bs_0 16, by rw [h1]; exact bs_0 12, fun k hk => hz k hk⟩ hF
  | m + 1, i, M, hi, h0, h1, hz, hF => by
    refine R_X1_make_12 ⟨fun c => absurd ((nI_leI (a := 16) (by omega) (by omega)).mp c) (by omega), fun _ => ⟨kvp (by omega) (by decide), ?_⟩⟩
    rw [kcl (by omega), nI_1]
    refine lP_zero k12 m (i + 1) _ (by omega) (by rw [up2_ne _ _ _ (by decide)]; exact h0) (by rw [up2_ne _ _ _ (by decide)]; exact h1) (fun k hk => ?_) (fun c a b => by rw [up2_ne _ _ _ b]; exact hF c a b)
    simp only [up2]
    by_cases z : k = i
    · rw [if_pos ⟨trivial, z⟩]
    · rw [if_neg (fun y => z y.2)]; exact hz k (by omega)
theorem tP_make {Q : Im → Hm → Dm → Prop} (hR : RS M 1 e q) (hw : wf n e) (hd : dr < n) (hposs : ∀ t, way e dr t → CANS n e t) (hQ : ∀ M1 P1, PS M1 P1 → SND n e dr P1 → (∀ s, CLO n e dr s → has e P1 s) → FrP M M1 → Q M1 h D) : CV (d + 6) nX1_make [.ref 29, .ref 1, .int (nI dr)] M h D Q := by
  have hn := hw.n16
  refine cv_of rfl rfl (R_X1_make_0 (lP_zero (M0 := M) (fun M1 p1 f1 => ?_) 16 0 _ rfl (by simp [up2]) (by simp [up2]) (fun k hk => absurd hk (Nat.not_lt_zero k)) (fun c a b => by rw [up2_ne _ _ _ a, up2_ne _ _ _ a])))
  have s1 : SND n e dr (fun _ => false, fun _ => false, fun _ => 0) := ⟨fun k _ z => (by cases z), fun t _ z => (by cases z), fun k hk => ⟨Nat.zero_le _, fun i _ z => absurd z (Nat.not_lt_zero i)⟩⟩
  refine R_X1_make_12 ⟨fun _ => tP_addWayInto (RS_p hR f1) hw hd p1 s1 (fun t ht => clo_seed ht) (fun M2 P2 p2 s2 l2 o2 f2 => ?_), fun c => absurd (by decide) c⟩
  refine lP_make (M0 := M) hw (fun s hs => clo_cans hposs hs) (fun M3 P3 p3 s3 d3 c3 f3 => hQ M3 P3 p3 s3 (fun s hs => hs (has e P3) d3 (fun s t _ ht hx hnd => c3 s t hx ht hnd)) f3) 77 0 0 M2 P2 (RS_p (RS_p hR f1) f2) rfl (Nat.le_refl _) (by decide) p2 s2 (fun t ht => ?_) (fun hc s t hs => ?_) (f1.tr f2)
  · have := way_lt hw.out hn hd ht
    exact Or.inl ⟨by omega, o2 t ht⟩
  · have hz : cntP e (fun _ => false, fun _ => false, fun _ => 0) = 0 := by
      unfold cntP
      rw [nsum_w (m := 16) (f := fun k => i01 false) (g := fun _ => 0) (fun _ _ => rfl), nsum_w (m := 12) (f := fun k => i01 false) (g := fun _ => 0) (fun _ _ => rfl), nsum_w (m := 16) (f := fun k => 0 - lfN e k) (g := fun _ => 0) (fun _ _ => Nat.zero_sub _)]
      decide
    have hb : has e (fun _ => false, fun _ => false, fun _ => 0) s := lep_back l2 (by rw [hz]; exact hc) hs
    rcases hb with ⟨a, b⟩ | ⟨j, a, b, c⟩ | ⟨k, i, a, b, c, d, f⟩
    · cases b
    · cases c
    · exact absurd f (Nat.not_lt_zero i)
end PB

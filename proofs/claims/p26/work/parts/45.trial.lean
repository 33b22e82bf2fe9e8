/-! THE CLASS: steps made in the trial state, canComeTo, neverOpened -/
noncomputable def dB (p : Prop) : Bool := @decide p (Classical.propDecidable p)
theorem dB_t {p : Prop} : dB p = true ↔ p := @decide_eq_true_iff p (Classical.propDecidable p)
theorem dB_f {p : Prop} : dB p = false ↔ ¬ p := @decide_eq_false_iff_not p (Classical.propDecidable p)
theorem dB_b {p : Prop} {b : Bool} (h : b = true ↔ p) : dB p = b := by
  cases b
  · exact dB_f.mpr (fun z => absurd (h.mpr z) (by decide))
  · exact dB_t.mpr (h.mp rfl)
def P0 (g0 : V) (i : Nat) (v : Int32) (g : V) : Prop := (v = 0 ∧ g = g0 ∧ ∀ k, k < i → canO g0 k = false ∧ canL g0 k = false) ∨ (v = 1 ∧ msr g0 < msr g)
def P1 (n : Nat) (g0 : V) (i : Nat) (v : Int32) (g : V) : Prop := (v = 0 ∧ g = g0 ∧ (∀ k, k < n → canO g0 k = false ∧ canL g0 k = false) ∧ ∀ t, t < i → canT g0 t = false) ∨ (v = 1 ∧ msr g0 < msr g)
section TR
variable {d n S q : Nat} {M M0 : Im} {h : Hm} {D : Dm} {e g g0 : V}
theorem lS_ms2 {Q : Int32 → Im → Hm → Dm → Prop} (hS : St S) (hw : wf n e) (hQ : ∀ M1 g1 v, RS M1 S g1 q → INV n e g1 → FrS S M0 M1 → P1 n g0 12 v g1 → Q v M1 h D) : ∀ (m i : Nat) (v : Int32) (M : Im) (g : V), i + m = 12 → RS M S g q → INV n e g → FrS S M0 M → P1 n g0 i v g → EvI (d + 3) nX2_makeSteps 55 [(0, .ref S), (1, .int v), (2, .int (nI i))] [] M h D Q
  | 0, i, v, M, g, hi, hR, hI, hF, hP => by
    obtain rfl : i = 12 := by omega
    exact R_X2_makeSteps_55 hS ⟨fun _ => ⟨hP.imp (fun z => z.1) (fun z => z.1), hQ M g v hR hI hF hP⟩, fun c => absurd ((nI_leI (a := 12) (by omega) (by omega)).mpr (by omega)) c⟩
  | m + 1, i, v, M, g, hi, hR, hI, hF, hP => by
    have ht : i < 12 := by omega
    refine R_X2_makeSteps_55 hS ⟨fun c => absurd ((nI_leI (a := 12) (by omega) (by omega)).mp c) (by omega), fun _ => tS_canTake hS hR hI.1.1 (hI.out hw) (hI.th hw) hI.2.2.1 hw.n16 ht (b2i_if (fun c => ?_) (fun c => t_bit ?_))⟩
    · rw [nI_1]
      refine lS_ms2 hS hw hQ m (i + 1) v M g (by omega) hR hI hF (hP.imp (fun ⟨a1, a2, a3, a4⟩ => ⟨a1, a2, a3, fun t h1 => ?_⟩) id)
      by_cases z : t = i
      · rw [z, ← a2]; exact c
      · exact a4 t (by omega)
    · rw [nI_1]
      obtain ⟨i1, i2⟩ := INV_tak hI hw ht c
      refine lS_ms2 hS hw hQ m (i + 1) 1 _ (updT g i 2 1) (by omega) (RS_hand i ht hR) i1 (hF.up0 _ _) (Or.inr ⟨rfl, ?_⟩)
      rcases hP with ⟨-, z, -⟩ | ⟨-, z⟩
      · rw [i2, z]; omega
      · omega
theorem lS_ms1 {Q : Int32 → Im → Hm → Dm → Prop} (hS : St S) (hw : wf n e) (hQ : ∀ M1 g1 v, RS M1 S g1 q → INV n e g1 → FrS S M0 M1 → P1 n g0 12 v g1 → Q v M1 h D) : ∀ (m i : Nat) (v : Int32) (M : Im) (g : V), i + m = n → RS M S g q → INV n e g → FrS S M0 M → P0 g0 i v g → EvI (d + 3) nX2_makeSteps 4 [(0, .ref S), (1, .int v), (2, .int (nI i))] [] M h D Q
  | 0, i, v, M, g, hi, hR, hI, hF, hP => by
    have hn := hw.n16
    obtain rfl : i = n := by omega
    refine R_X2_makeSteps_4 hS ?_
    rw [hR.1, hI.1.1]
    refine ⟨fun _ => lS_ms2 hS hw hQ 12 0 v M g rfl hR hI hF (hP.imp (fun ⟨a1, a2, a3⟩ => ⟨a1, a2, a3, fun t h1 => absurd h1 (Nat.not_lt_zero t)⟩) id), fun c => absurd ((nI_leI (by omega) (by omega)).mpr (by omega)) c⟩
  | m + 1, i, v, M, g, hi, hR, hI, hF, hP => by
    have hn := hw.n16
    have hk : i < n := by omega
    have k27 : ∀ (v2 : Int32) (M2 : Im) (g2 : V), RS M2 S g2 q → INV n e g2 → FrS S M0 M2 → ((v2 = 0 ∧ g2 = g0 ∧ (∀ k, k < i → canO g0 k = false ∧ canL g0 k = false) ∧ canO g0 i = false) ∨ (v2 = 1 ∧ msr g0 < msr g2)) → EvI (d + 3) nX2_makeSteps 27 [(0, .ref S), (1, .int v2), (2, .int (nI i))] [] M2 h D Q := by
      intro v2 M2 g2 hR2 hI2 hF2 hP2
      refine R_X2_makeSteps_27 hS (tS_canLift hS hR2 hI2.1.1 (hI2.out hw) hn hk (b2i_if (fun c => ?_) (fun c => ⟨kvp (by omega) (by decide), kvp (by omega) (by decide), ?_⟩)))
      · rw [nI_1]
        refine lS_ms1 hS hw hQ m (i + 1) v2 M2 g2 (by omega) hR2 hI2 hF2 (hP2.imp (fun ⟨a1, a2, a3, a4⟩ => ⟨a1, a2, fun k h1 => ?_⟩) id)
        by_cases z : k = i
        · rw [z]; exact ⟨a4, by rw [← a2]; exact c⟩
        · exact a3 k (by omega)
      · rw [nI_1, kcl (by omega), (hR2.2.2.2.2.2.2.2.1 i (by omega)).2.2.2.2.2]
        obtain ⟨i1, i2⟩ := INV_lft hI2 hw hk c
        refine lS_ms1 hS hw hQ m (i + 1) 1 _ (updF g2 i 5 (fd g2 i 5 + 1)) (by omega) (RS_F i 5 (by decide) (by omega) hR2) i1 (hF2.up 6 _ _ (by decide)) (Or.inr ⟨rfl, ?_⟩)
        rcases hP2 with ⟨-, z, -⟩ | ⟨-, z⟩
        · rw [i2, z]; omega
        · omega
    refine R_X2_makeSteps_4 hS ?_
    rw [hR.1, hI.1.1]
    refine ⟨fun c => absurd ((nI_leI (by omega) (by omega)).mp c) (by omega), fun _ => tS_canOpen hS hR hI.1.1 (hI.out hw) (hI.by' hw) hI.2.2.1 hn hk (b2i_if (fun c => k27 v M g hR hI hF (hP.imp (fun ⟨a1, a2, a3⟩ => ⟨a1, a2, a3, by rw [← a2]; exact c⟩) id)) (fun c => tS_setOpen hS hR (by omega) (fun M2 r2 f2 => ?_)))⟩
    obtain ⟨i1, i2⟩ := INV_opn hI hw hk c
    refine k27 1 M2 (opn g i) r2 i1 (hF.tr f2) (Or.inr ⟨rfl, ?_⟩)
    rcases hP with ⟨-, z, -⟩ | ⟨-, z⟩
    · rw [i2, z]; omega
    · omega
theorem tS_makeSteps {Q : Int32 → Im → Hm → Dm → Prop} (hS : St S) (hw : wf n e) (hR : RS M S g q) (hI : INV n e g) (hQ : ∀ M1 g1 v, RS M1 S g1 q → INV n e g1 → FrS S M M1 → P1 n g 12 v g1 → Q v M1 h D) : CI (d + 4) nX2_makeSteps [.ref S] M h D Q :=
  ci_of rfl rfl (R_X2_makeSteps_0 hS (lS_ms1 (M0 := M) (g0 := g) hS hw hQ n 0 0 M g (by omega) hR hI (FrS.refl S M) (Or.inl ⟨rfl, rfl, fun k h1 => absurd h1 (Nat.not_lt_zero k)⟩)))
theorem lS_makeAll {Q : Im → Hm → Dm → Prop} (hS : St S) (hw : wf n e) (hQ : ∀ M1 g1, RS M1 S g1 q → INV n e g1 → MAX n g1 → FrS S M0 M1 → Q M1 h D) : ∀ (m r : Nat) (M : Im) (g : V), r + m = 77 → RS M S g q → INV n e g → r ≤ msr g → FrS S M0 M → EvV (d + 4) nX2_makeAllSteps 4 [(0, .ref S), (1, .int 1), (2, .int (nI r))] [] M h D Q
  | 0, r, M, g, hr, hR, hI, hm, hF => by
    have := hI.m76 hw
    omega
  | m + 1, r, M, g, hr, hR, hI, hm, hF => by
    refine R_X2_makeAllSteps_4 hS ⟨fun c => absurd ((nI_ltI (a := 76) (by omega) (by omega)).mp c) (by omega), fun _ => ⟨fun c => absurd c (by decide), fun _ => tS_makeSteps hS hw hR hI (fun M1 g1 v r1 i1 f1 p1 => ?_)⟩⟩
    rw [nI_1]
    rcases p1 with ⟨rfl, rfl, a3, a4⟩ | ⟨rfl, a2⟩
    · have hfin : Q M1 h D := hQ M1 g1 r1 i1 ⟨a3, a4⟩ (hF.tr f1)
      exact R_X2_makeAllSteps_4 hS ⟨fun _ => hfin, fun _ => ⟨fun _ => hfin, fun c => absurd rfl c⟩⟩
    · exact lS_makeAll hS hw hQ m (r + 1) M1 g1 (by omega) r1 i1 (by omega) (hF.tr f1)
theorem tS_makeAll {Q : Im → Hm → Dm → Prop} (hS : St S) (hw : wf n e) (hR : RS M S e q) (hQ : ∀ M1 g1, RS M1 S g1 q → INV n e g1 → MAX n g1 → FrS S M M1 → Q M1 h D) : CV (d + 5) nX2_makeAllSteps [.ref S] M h D Q :=
  cv_of rfl rfl (R_X2_makeAllSteps_0 hS (lS_makeAll (M0 := M) hS hw hQ 77 0 M e rfl hR (INV_refl hw) (Nat.zero_le _) (FrS.refl S M)))
end TR
noncomputable def posB (n : Nat) (e : V) (k : Nat) : Bool := dB (∀ t, way e k t → CANS n e t)
def pbk (a : V) : V := updH (asl a) 1 0
noncomputable def stk (n : Nat) (a : V) : Int32 := foru (fun k => if (!dB (CANS n (pbk a) k)) = true then 1 <<< (nI k &&& 31) else 0) n
theorem St19 : St 19 := by unfold St; omega
section CC
variable {d n : Nat} {M : Im} {h : Hm} {D : Dm} {A : Ab} {k : Nat} {Q : Int32 → Im → Hm → Dm → Prop}
theorem IX_19 {M1 : Im} (hI : IX M h A) (hF : FrS 19 M M1) : IX M1 h A := IX_fr hI (fun c _ h1 _ => hF c (by omega))
theorem tX_canComeTo (hw : wf n A.1.1) (hI : IX M h A) (hk : k < n) (hQ : ∀ M1, IX M1 h A → FrX M M1 → Q (b2i (posB n A.1.1 k)) M1 h D) : CI (d + 6) nX3_canComeTo [.ref 0, .int (nI k)] M h D Q := by
  have hk16 : k < 16 := by have := hw.n16; omega
  refine ci_of rfl rfl (R_X3_canComeTo_0 (cv_of rfl rfl (R_X3_copyState_0 (Or.inl rfl) St19 (tS_copyFrom St19 (Or.inl rfl) (by omega) hI.1 hw.a1 (fun M1 r1 f1 => tS_makeAll St19 hw r1 (fun M2 g r2 i2 m2 f2 => ?_))))))
  have hF : FrS 19 M M2 := f1.tr f2
  have hq := hQ M2 (IX_19 hI hF) (FrX.of hF St19)
  have hp := MAX_pos i2 hw m2 hk
  refine t_isOpen St19 r2 hk16 (b2i_if (fun c => ?_) (fun c => tS_isReached St19 r2 i2.1.1 (i2.out hw) hw.n16 hk (b2i_if (fun c2 => ?_) (fun c2 => ?_))))
  · rw [show posB n A.1.1 k = false from dB_f.mpr (fun z => absurd (hp.mpr z).1 (by simpa using c))] at hq; exact hq
  · rw [show posB n A.1.1 k = false from dB_f.mpr (fun z => absurd (hp.mpr z).2 (by rw [c2]; decide))] at hq; exact hq
  · rw [show posB n A.1.1 k = true from dB_t.mpr (hp.mp ⟨by simpa using c, c2⟩)] at hq; exact hq
theorem tX_never (hw : wf n A.1.1) (hI : IX M h A) (hQ : ∀ M1, IX M1 h A → FrX M M1 → Q (stk n A.1.1) M1 h D) : CI (d + 6) nX3_neverOpened [.ref 0] M h D Q := by
  have hwp : wf n (pbk A.1.1) := wf_asl hw 0 (Or.inl rfl)
  refine ci_of rfl rfl (R_X3_neverOpened_0 (cv_of rfl rfl (R_X3_copyState_0 (Or.inl rfl) St19 (tS_copyFrom St19 (Or.inl rfl) (by omega) hI.1 hw.a1 (fun M1 r1 f1 => tS_putBack St19 r1 (fun M2 r2 f2 => tS_makeAll St19 hwp (show RS M2 19 (pbk A.1.1) 0 from r2) (fun M3 g r3 i3 m3 f3 => ?_)))))))
  have hF : FrS 19 M M3 := (f1.tr f2).tr f3
  rw [r3.1, i3.1.1]
  refine t_bit ?_
  have e1 : ((1 : Int32) <<< (nI n &&& 31) - 1) &&& (M3 19 4 ^^^ (-1)) = stk n A.1.1 := by
    refine bs_ext (bs_minus r3.2.2.2.2.1 hw.n16 (by decide)) (bs_foru n (by have := hw.n16; omega)) (fun i hi => ?_)
    have hc : clo (pbk A.1.1) i := ((hwp.ng (by unfold pbk; rw [hd_H, if_pos rfl])).1 i (by have := hw.n16; omega)).2.1
    have := MAX_opn i3 hwp m3 hi hc
    congr 1
    exact (dB_b (by rw [beq_iff_eq]; exact this)).symm
  rw [e1]
  exact hQ M3 (IX_19 hI hF) (FrX.of hF St19)
end CC

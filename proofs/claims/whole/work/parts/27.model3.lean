/-! THE MODEL's methods, 3: writes -/
def cpr (s o : V) (i : Nat) : V := fun j => if j < i then s j else o j
theorem cpr_0 (s o : V) : cpr s o 0 = o := by funext j; unfold cpr; rw [if_neg (by omega)]
theorem cpr_up (s o : V) (i : Nat) : updH (cpr s o i) i (s i) = cpr s o (i + 1) := by
  funext j; unfold updH cpr
  by_cases e : j = i
  · rw [if_pos e, if_pos (by omega), e]
  · rw [if_neg e]
    by_cases e2 : j < i
    · rw [if_pos e2, if_pos (by omega)]
    · rw [if_neg e2, if_neg (by omega)]
theorem mulrow (p i : Nat) : (168 : Int32) * nI p + nI i = nI (168 * p + i) := by
  have e : (168 : Int32) * nI p = nI (168 * p) := by
    apply Int32.toBitVec_inj.mp
    rw [Int32.toBitVec_mul]
    show BitVec.ofNat 32 168 * BitVec.ofNat 32 p = BitVec.ofNat 32 (168 * p)
    exact (BitVec.ofNat_mul 168 p).symm
  rw [e, nI_add]
theorem nI_inj' {a b : Nat} (ha : a < 2 ^ 31) (hb : b < 2 ^ 31) (h : nI a = nI b) : a = b := by
  have := congrArg Int32.toInt h
  rw [nI_toInt ha, nI_toInt hb] at this
  omega
theorem nI_nz (n : Nat) (h0 : 0 < n) (h : n < 2 ^ 31) : ¬ nI n = 0 := fun z => by
  have := nI_inj' (b := 0) h (by decide) z
  omega
section M3
variable {d n k : Nat} {M : Im} {h : Hm} {D : Dm}
theorem tM_goBuild {Q : Int32 → Im → Hm → Dm → Prop} {o hd b st : Int32} (h0 : M 74 0 = nI n) (hn : n < 16) (hQ : ∀ M1, M1 74 = goB (M 74) n o hd b st → (∀ c, c ≠ 74 → M1 c = M c) → Q (nI n) M1 h D) : CI (d + 2) nX4_goBuild [.ref 73, .int o, .int hd, .int b, .int st] M h D Q := by
  have key : ∀ y : Int32, (y = if hd = 1 ∨ hd = 2 then b else -5) → EvI (d + 1) nX4_goBuild 55 [(0, .ref 73), (1, .int o), (2, .int hd), (3, .int b), (4, .int st), (5, .int (nI (40 + 8 * n)))] [.int y, .int (nI (40 + 8 * n) + 2), .ref 74] (up2 (up2 M 74 (40 + 8 * n + 0) o) 74 (40 + 8 * n + 1) hd) h D Q := by
    intro y hy
    have e : up2 (up2 (up2 (up2 M 74 (40 + 8 * n + 0) o) 74 (40 + 8 * n + 1) hd) 74 (40 + 8 * n + 2) y) 74 (40 + 8 * n + 3) st 74 = updF (updF (updF (updF (M 74) n 0 o) n 1 hd) n 2 y) n 3 st := by
      rw [row_F, row_F, row_F, row_F]
    refine R_X4_goBuild_55 ⟨dvp hn (by decide), dvp hn (by decide), vpl (by decide), vpl (by decide), fun M1 e1 => ⟨vpl (by decide), ?_⟩⟩
    rw [dcl hn (by decide), dcl hn (by decide), z_clamp] at e1
    rw [z_clamp]
    have z : up2 (up2 (up2 (up2 M 74 (40 + 8 * n + 0) o) 74 (40 + 8 * n + 1) hd) 74 (40 + 8 * n + 2) y) 74 (40 + 8 * n + 3) st 74 0 = nI n := by
      rw [e, hd_F (by decide), hd_F (by decide), hd_F (by decide), hd_F (by decide)]; exact h0
    rw [z, show nI n + 1 = nI (n + 1) from nI_1 n] at e1
    have e2 : M1 74 = goB (M 74) n o hd b st := by
      rw [e1, row_H, e, hy]; rfl
    rw [show M1 74 0 = nI (n + 1) by rw [e2]; rfl, show nI (n + 1) - 1 = nI n by rw [← nI_1]; exact Int32.add_sub_cancel _ _]
    refine hQ M1 e2 (fun c hc => ?_)
    rw [e1, up2_ne _ _ _ hc, up2_ne _ _ _ hc, up2_ne _ _ _ hc, up2_ne _ _ _ hc, up2_ne _ _ _ hc]
  refine ci_of rfl rfl (R_X4_goBuild_0 ⟨vpl (by decide), ?_⟩)
  rw [z_clamp, h0]
  refine t_d ⟨dvp hn (by decide), dvp hn (by decide), ?_⟩
  rw [dcl hn (by decide), dcl hn (by decide)]
  exact ⟨fun c => key _ (by rw [if_pos (Or.inl c)]), fun c1 => ⟨fun c2 => key _ (by rw [if_neg (by simp [c1, c2])]), fun c2 => key _ (by rw [if_pos (Or.inr (Classical.not_not.mp c2))])⟩⟩
theorem lM_asD {Q : Im → Hm → Dm → Prop} {a : V} (hQ : ∀ M1, M1 74 = asD a 16 → (∀ c, c ≠ 74 → M1 c = M c) → Q M1 h D) : ∀ (m i : Nat) (M2 : Im), i + m = 16 → M2 74 = asD a i → (∀ c, c ≠ 74 → M2 c = M c) → EvV (d + 1) nX4_asLaid 42 [(0, .ref 73), (1, .int (nI i))] [] M2 h D Q
  | 0, i, M2, hi, hR, hF => by
    obtain rfl : i = 16 := by omega
    exact R_X4_asLaid_42 ⟨fun _ => hQ _ hR hF, fun c => absurd ((nI_leI (a := 16) (by omega) (by omega)).mpr (by omega)) c⟩
  | m + 1, i, M2, hi, hR, hF => by
    have hk : i < 16 := by omega
    refine R_X4_asLaid_42 ⟨fun c => absurd ((nI_leI (a := 16) (by omega) (by omega)).mp c) (by omega), fun _ => t_d ⟨dvp hk (by decide), t_d ⟨dvp hk (by decide), t_d ⟨dvp hk (by decide), ?_⟩⟩⟩⟩
    rw [dcl hk (by decide), dcl hk (by decide), dcl hk (by decide), nI_1]
    refine lM_asD hQ m (i + 1) _ (by omega) ?_ (fun c hc => ?_)
    · rw [row_F, row_F, row_F, hR]; rfl
    · rw [up2_ne _ _ _ hc, up2_ne _ _ _ hc, up2_ne _ _ _ hc]; exact hF c hc
theorem lM_asT {Q : Im → Hm → Dm → Prop} {a : V} (hQ : ∀ M1, M1 74 = asD (asT a 12) 16 → (∀ c, c ≠ 74 → M1 c = M c) → Q M1 h D) : ∀ (m i : Nat) (M2 : Im), i + m = 12 → M2 74 = asT a i → (∀ c, c ≠ 74 → M2 c = M c) → EvV (d + 1) nX4_asLaid 16 [(0, .ref 73), (1, .int (nI i))] [] M2 h D Q
  | 0, i, M2, hi, hR, hF => by
    obtain rfl : i = 12 := by omega
    exact R_X4_asLaid_16 ⟨fun _ => lM_asD hQ 16 0 _ rfl hR hF, fun c => absurd ((nI_leI (a := 12) (by omega) (by omega)).mpr (by omega)) c⟩
  | m + 1, i, M2, hi, hR, hF => by
    have ht : i < 12 := by omega
    refine R_X4_asLaid_16 ⟨fun c => absurd ((nI_leI (a := 12) (by omega) (by omega)).mp c) (by omega), fun _ => t_t ⟨tvp ht (by decide), ?_⟩⟩
    rw [tcl ht (by decide), nI_1]
    refine lM_asT hQ m (i + 1) _ (by omega) ?_ (fun c hc => ?_)
    · rw [row_T, hR]; rfl
    · rw [up2_ne _ _ _ hc]; exact hF c hc
theorem tM_asLaid {Q : Im → Hm → Dm → Prop} (hQ : ∀ M1, M1 74 = asl (M 74) → (∀ c, c ≠ 74 → M1 c = M c) → Q M1 h (up2 D 77 0 (dq 0))) : CV (d + 2) nX4_asLaid [.ref 73] M h D Q := by
  refine cv_of rfl rfl (R_X4_asLaid_0 ⟨vpl (by decide), vpl (by decide), ?_⟩)
  rw [z_clamp, show (2 : Int32).toNatClampNeg = 2 by decide, show FP.dconst0 = dq 0 from dq_0.symm]
  exact lM_asT hQ 12 0 _ rfl row_H (fun c hc => up2_ne _ _ _ hc)
theorem lM_cb {Q : Int32 → Im → Hm → Dm → Prop} {a : V} {v3 : Int32} {b : Int32} (hQ : ∀ M1, M1 74 = cb a k b 12 → (∀ c, c ≠ 74 → M1 c = M c) → Q v3 M1 h D) : ∀ (m i : Nat) (M2 : Im), i + m = 12 → M2 74 = cb a k b i → (∀ c, c ≠ 74 → M2 c = M c) → EvI (d + 1) nX4_setBottoms 71 [(0, .ref 73), (1, .int (nI k)), (2, .int b), (3, .int v3), (4, .int (nI i))] [] M2 h D Q
  | 0, i, M2, hi, hR, hF => by
    obtain rfl : i = 12 := by omega
    exact R_X4_setBottoms_71 ⟨fun _ => hQ _ hR hF, fun c => absurd ((nI_leI (a := 12) (by omega) (by omega)).mpr (by omega)) c⟩
  | m + 1, i, M2, hi, hR, hF => by
    have ht : i < 12 := by omega
    have k0 : ¬ (ft (M2 74) i 0 = nI k ∧ b < ft (M2 74) i 1) → EvI (d + 1) nX4_setBottoms 115 [(0, .ref 73), (1, .int (nI k)), (2, .int b), (3, .int v3), (4, .int (nI i))] [.int 0] M2 h D Q := fun hc => by
      refine R_X4_setBottoms_115 (t_t ⟨fun _ => t_t ⟨tvp ht (by decide), tvp ht (by decide), ?_⟩, fun z => absurd rfl z⟩)
      rw [tcl ht (by decide), nI_1]
      refine lM_cb hQ m (i + 1) _ (by omega) ?_ (fun c hc => by rw [up2_ne _ _ _ hc]; exact hF c hc)
      rw [row_T, updT_id rfl, cb, ← hR, if_neg hc]
    have k1 : (ft (M2 74) i 0 = nI k ∧ b < ft (M2 74) i 1) → EvI (d + 1) nX4_setBottoms 115 [(0, .ref 73), (1, .int (nI k)), (2, .int b), (3, .int v3), (4, .int (nI i))] [.int 1] M2 h D Q := fun hc => by
      refine R_X4_setBottoms_115 (t_t ⟨fun z => absurd z (by decide), fun _ => ⟨tvp ht (by decide), ?_⟩⟩)
      rw [tcl ht (by decide), nI_1]
      refine lM_cb hQ m (i + 1) _ (by omega) ?_ (fun c hc => by rw [up2_ne _ _ _ hc]; exact hF c hc)
      rw [row_T, cb, ← hR, if_pos hc]
    refine R_X4_setBottoms_71 ⟨fun c => absurd ((nI_leI (a := 12) (by omega) (by omega)).mp c) (by omega), fun _ => t_t ⟨tvp ht (by decide), ?_⟩⟩
    rw [tcl ht (by decide)]
    refine ⟨fun c => k0 (fun z => c z.1), fun c => t_t ⟨tvp ht (by decide), ?_⟩⟩
    rw [tcl ht (by decide)]
    exact ⟨fun c2 => k0 (fun z => absurd c2 (Int32.not_le.mpr z.2)), fun c2 => k1 ⟨Classical.not_not.mp c, Int32.not_le.mp c2⟩⟩
theorem lM_undo {Q : Int32 → Im → Hm → Dm → Prop} {p : Nat} (hp : p < 4) (h1 : M 73 11 = nI p) (hQ : ∀ M1, M1 74 = cpr (fun j => M 75 (168 * p + j)) (M 74) 168 → (∀ c, c ≠ 74 → M1 c = M c) → Q (nI p) M1 h (up2 D 77 0 (D 77 (1 + p)))) : ∀ (m i : Nat) (M2 : Im), i + m = 168 → M2 74 = cpr (fun j => M 75 (168 * p + j)) (M 74) i → (∀ c, c ≠ 74 → M2 c = M c) → EvI (d + 1) nX4_undo 22 [(0, .ref 73), (1, .int (nI i))] [] M2 h D Q
  | 0, i, M2, hi, hR, hF => by
    obtain rfl : i = 168 := by omega
    refine R_X4_undo_22 ⟨fun _ => ?_, fun c => absurd ((nI_leI (a := 168) (by omega) (by omega)).mpr (by omega)) c⟩
    rw [hF 73 (by decide), h1, show (1 : Int32) + nI p = nI (1 + p) from nI_add 1 p, nI_clamp (by omega), z_clamp]
    exact ⟨vp_in_nI (by omega) (by decide), vpl (by decide), hQ M2 hR hF⟩
  | m + 1, i, M2, hi, hR, hF => by
    have ht : i < 168 := by omega
    refine R_X4_undo_22 ⟨fun c => absurd ((nI_leI (a := 168) (by omega) (by omega)).mp c) (by omega), fun _ => ?_⟩
    rw [hF 73 (by decide), h1, mulrow, nI_clamp (by omega), nI_clamp (by omega), nI_1]
    refine ⟨vp_in_nI (by omega) (by decide), vp_in_nI (by omega) (by decide), lM_undo hp h1 hQ m (i + 1) _ (by omega) ?_ (fun c hc => by rw [up2_ne _ _ _ hc]; exact hF c hc)⟩
    rw [row_H, hR, hF 75 (by decide)]
    exact cpr_up (fun j => M 75 (168 * p + j)) (M 74) i
theorem tM_undo {Q : Int32 → Im → Hm → Dm → Prop} {p : Nat} (hp : p < 4) (h1 : M 73 11 = nI (p + 1)) (hQ : ∀ M1, M1 74 = cpr (fun j => M 75 (168 * p + j)) (M 74) 168 → M1 73 = updH (M 73) 11 (nI p) → (∀ c, c ≠ 74 → c ≠ 73 → M1 c = M c) → Q (nI p) M1 h (up2 D 77 0 (D 77 (1 + p)))) : CI (d + 2) nX4_undo [.ref 73] M h D Q := by
  have hr : up2 M 73 11 (nI p) 73 = updH (M 73) 11 (nI p) := up2_row _ _ _ _
  refine ci_of rfl rfl (R_X4_undo_0 ⟨fun _ => ?_, fun c => ?_⟩)
  · rw [h1, show nI (p + 1) - 1 = nI p by rw [← nI_1]; exact Int32.add_sub_cancel _ _]
    refine lM_undo (M := up2 M 73 11 (nI p)) hp (by rw [hr]; rfl) (fun M1 g1 g2 => hQ M1 ?_ ?_ ?_) 168 0 _ rfl (cpr_0 _ _).symm (fun _ _ => rfl)
    · rw [g1, up2_ne _ _ _ (by decide), up2_ne _ _ _ (by decide)]
    · rw [g2 73 (by decide)]; exact hr
    · intro c hc hc2; rw [g2 c hc, up2_ne _ _ _ hc2]
  · rw [h1] at c; exact absurd (Classical.not_not.mp c) (nI_nz (p + 1) (by omega) (by omega))
theorem tM_undo0 {Q : Int32 → Im → Hm → Dm → Prop} (h1 : M 73 11 = 0) (hQ : Q (-5) M h D) : CI (d + 2) nX4_undo [.ref 73] M h D Q :=
  ci_of rfl rfl (R_X4_undo_0 ⟨fun c => absurd h1 c, fun _ => hQ⟩)
theorem lM_keep {Q : Int32 → Im → Hm → Dm → Prop} (hQ : ∀ M1, M1 76 = cpr (M 74) (M 76) 168 → M1 73 = updH (M 73) 12 1 → (∀ c, c ≠ 76 → c ≠ 73 → M1 c = M c) → Q (M 74 0) M1 h (up2 D 77 5 (D 77 0))) : ∀ (m i : Nat) (M2 : Im), i + m = 168 → M2 76 = cpr (M 74) (M 76) i → (∀ c, c ≠ 76 → M2 c = M c) → EvI (d + 1) nX4_keep 2 [(0, .ref 73), (1, .int (nI i))] [] M2 h D Q
  | 0, i, M2, hi, hR, hF => by
    obtain rfl : i = 168 := by omega
    refine R_X4_keep_2 ⟨fun _ => ⟨vpl (by decide), vpl (by decide), vpl (by decide), ?_⟩, fun c => absurd ((nI_leI (a := 168) (by omega) (by omega)).mpr (by omega)) c⟩
    rw [z_clamp, up2_ne _ _ _ (by decide), hF 74 (by decide), show (5 : Int32).toNatClampNeg = 5 by decide]
    refine hQ _ ?_ ?_ ?_
    · rw [up2_ne _ _ _ (by decide)]; exact hR
    · rw [show up2 M2 73 12 1 73 = updH (M2 73) 12 1 from up2_row _ _ _ _, hF 73 (by decide)]
    · intro c hc hc2; rw [up2_ne _ _ _ hc2]; exact hF c hc
  | m + 1, i, M2, hi, hR, hF => by
    have ht : i < 168 := by omega
    refine R_X4_keep_2 ⟨fun c => absurd ((nI_leI (a := 168) (by omega) (by omega)).mp c) (by omega), fun _ => ?_⟩
    rw [nI_clamp (by omega), nI_1]
    refine ⟨vp_in_nI (by omega) (by decide), vp_in_nI (by omega) (by decide), lM_keep hQ m (i + 1) _ (by omega) ?_ (fun c hc => by rw [up2_ne _ _ _ hc]; exact hF c hc)⟩
    rw [show up2 M2 76 i (M2 74 i) 76 = updH (M2 76) i (M2 74 i) from up2_row _ _ _ _, hR, hF 74 (by decide)]
    exact cpr_up _ _ _
theorem tM_keep {Q : Int32 → Im → Hm → Dm → Prop} (hQ : ∀ M1, M1 76 = cpr (M 74) (M 76) 168 → M1 73 = updH (M 73) 12 1 → (∀ c, c ≠ 76 → c ≠ 73 → M1 c = M c) → Q (M 74 0) M1 h (up2 D 77 5 (D 77 0))) : CI (d + 2) nX4_keep [.ref 73] M h D Q :=
  ci_of rfl rfl (R_X4_keep_0 (lM_keep hQ 168 0 _ rfl (cpr_0 _ _).symm (fun _ _ => rfl)))
theorem lM_restore {Q : Int32 → Im → Hm → Dm → Prop} (hQ : ∀ M1, M1 74 = cpr (M 76) (M 74) 168 → (∀ c, c ≠ 74 → M1 c = M c) → Q (M1 74 0) M1 h (up2 D 77 0 (D 77 5))) : ∀ (m i : Nat) (M2 : Im), i + m = 168 → M2 74 = cpr (M 76) (M 74) i → (∀ c, c ≠ 74 → M2 c = M c) → EvI (d + 1) nX4_restore 16 [(0, .ref 73), (1, .int (nI i))] [] M2 h D Q
  | 0, i, M2, hi, hR, hF => by
    obtain rfl : i = 168 := by omega
    refine R_X4_restore_16 ⟨fun _ => ⟨vpl (by decide), vpl (by decide), vpl (by decide), ?_⟩, fun c => absurd ((nI_leI (a := 168) (by omega) (by omega)).mpr (by omega)) c⟩
    rw [z_clamp, show (5 : Int32).toNatClampNeg = 5 by decide]
    exact hQ M2 hR hF
  | m + 1, i, M2, hi, hR, hF => by
    have ht : i < 168 := by omega
    refine R_X4_restore_16 ⟨fun c => absurd ((nI_leI (a := 168) (by omega) (by omega)).mp c) (by omega), fun _ => ?_⟩
    rw [nI_clamp (by omega), nI_1]
    refine ⟨vp_in_nI (by omega) (by decide), vp_in_nI (by omega) (by decide), lM_restore hQ m (i + 1) _ (by omega) ?_ (fun c hc => by rw [up2_ne _ _ _ hc]; exact hF c hc)⟩
    rw [row_H, hR, hF 76 (by decide)]
    exact cpr_up _ _ _
/-- the last part of record: the row goes to place p -/
theorem lM_rec {Q : Im → Hm → Dm → Prop} {p : Nat} (hp : p < 4) (h1 : M 73 11 = nI p) (hQ : ∀ M1, M1 73 = updH (M 73) 11 (nI (p + 1)) → (∀ j, j < 168 * p → M1 75 j = M 75 j) → (∀ j, j < 168 → M1 75 (168 * p + j) = M 74 j) → (∀ c, c ≠ 73 → c ≠ 75 → M1 c = M c) → Q M1 h (up2 D 77 (1 + p) (D 77 0))) : ∀ (m i : Nat) (M2 : Im), i + m = 168 → (∀ j, j < 168 * p → M2 75 j = M 75 j) → (∀ j, j < i → M2 75 (168 * p + j) = M 74 j) → (∀ c, c ≠ 75 → M2 c = M c) → EvV (d + 1) nX4_record 87 [(0, .ref 73), (1, .int (nI i))] [] M2 h D Q
  | 0, i, M2, hi, hR, hN, hF => by
    obtain rfl : i = 168 := by omega
    refine R_X4_record_87 ⟨fun _ => ?_, fun c => absurd ((nI_leI (a := 168) (by omega) (by omega)).mpr (by omega)) c⟩
    rw [hF 73 (by decide), h1, show (1 : Int32) + nI p = nI (1 + p) from nI_add 1 p, nI_clamp (by omega), z_clamp, nI_1]
    refine ⟨vpl (by decide), vp_in_nI (by omega) (by decide), hQ _ ?_ ?_ ?_ ?_⟩
    · rw [show up2 M2 73 11 (nI (p + 1)) 73 = updH (M2 73) 11 (nI (p + 1)) from up2_row _ _ _ _, hF 73 (by decide)]
    · intro j hj; rw [up2_ne _ _ _ (by decide)]; exact hR j hj
    · intro j hj; rw [up2_ne _ _ _ (by decide)]; exact hN j hj
    · intro c hc hc2; rw [up2_ne _ _ _ hc]; exact hF c hc2
  | m + 1, i, M2, hi, hR, hN, hF => by
    have ht : i < 168 := by omega
    refine R_X4_record_87 ⟨fun c => absurd ((nI_leI (a := 168) (by omega) (by omega)).mp c) (by omega), fun _ => ?_⟩
    rw [hF 73 (by decide), h1, mulrow, nI_clamp (by omega), nI_clamp (by omega), nI_1, hF 74 (by decide)]
    refine ⟨vp_in_nI (by omega) (by decide), vp_in_nI (by omega) (by decide), lM_rec hp h1 hQ m (i + 1) _ (by omega) ?_ ?_ (fun c hc => by rw [up2_ne _ _ _ hc]; exact hF c hc)⟩
    · intro j hj
      unfold up2
      rw [if_neg (fun z => by omega)]; exact hR j hj
    · intro j hj
      unfold up2
      by_cases e : j = i
      · rw [if_pos ⟨rfl, by omega⟩, e]
      · rw [if_neg (fun z => by omega)]; exact hN j (by omega)
/-- the first part, of a full history: all goes one place down -/
theorem lM_shift {Q : Im → Hm → Dm → Prop} (hQ : ∀ M2 : Im, (∀ j, j < 504 → M2 75 j = M 75 (168 + j)) → (∀ c, c ≠ 75 → M2 c = M c) → EvV (d + 1) nX4_record 87 [(0, .ref 73), (1, .int 0)] [] (up2 M2 73 11 (M 73 11 - 1)) h (up2 (up2 (up2 D 77 1 (D 77 2)) 77 2 (D 77 3)) 77 3 (D 77 4)) Q) : ∀ (m i : Nat) (M2 : Im), i + m = 504 → (∀ j, j < i → M2 75 j = M 75 (168 + j)) → (∀ j, i ≤ j → M2 75 j = M 75 j) → (∀ c, c ≠ 75 → M2 c = M c) → EvV (d + 1) nX4_record 10 [(0, .ref 73), (1, .int (nI i))] [] M2 h D Q
  | 0, i, M2, hi, hR, hN, hF => by
    obtain rfl : i = 504 := by omega
    refine R_X4_record_10 ⟨fun _ => ⟨vpl (by decide), vpl (by decide), vpl (by decide), vpl (by decide), vpl (by decide), vpl (by decide), ?_⟩, fun c => absurd ((nI_leI (a := 504) (by omega) (by omega)).mpr (by omega)) c⟩
    have := hQ M2 hR hF
    rw [show (1 : Int32).toNatClampNeg = 1 by decide, show (2 : Int32).toNatClampNeg = 2 by decide, show (3 : Int32).toNatClampNeg = 3 by decide, show (4 : Int32).toNatClampNeg = 4 by decide, hF 73 (by decide)]
    exact this
  | m + 1, i, M2, hi, hR, hN, hF => by
    refine R_X4_record_10 ⟨fun c => absurd ((nI_leI (a := 504) (by omega) (by omega)).mp c) (by omega), fun _ => ?_⟩
    rw [show (168 : Int32) + nI i = nI (168 + i) from nI_add 168 i, nI_clamp (by omega), nI_clamp (by omega), nI_1, hN (168 + i) (by omega)]
    refine ⟨vp_in_nI (by omega) (by decide), vp_in_nI (by omega) (by decide), lM_shift hQ m (i + 1) _ (by omega) ?_ ?_ (fun c hc => by rw [up2_ne _ _ _ hc]; exact hF c hc)⟩
    · intro j hj
      unfold up2
      by_cases e : j = i
      · rw [if_pos ⟨rfl, e⟩, e]
      · rw [if_neg (fun z => e z.2)]; exact hR j (by omega)
    · intro j hj
      unfold up2
      rw [if_neg (fun z => by omega)]; exact hN j (by omega)
theorem tM_record {Q : Im → Hm → Dm → Prop} {p : Nat} (hp : p < 4) (h1 : M 73 11 = nI p) (hQ : ∀ M1, M1 73 = updH (M 73) 11 (nI (p + 1)) → (∀ j, j < 168 * p → M1 75 j = M 75 j) → (∀ j, j < 168 → M1 75 (168 * p + j) = M 74 j) → (∀ c, c ≠ 73 → c ≠ 75 → M1 c = M c) → Q M1 h (up2 D 77 (1 + p) (D 77 0))) : CV (d + 2) nX4_record [.ref 73] M h D Q := by
  refine cv_of rfl rfl (R_X4_record_0 ⟨fun _ => lM_rec hp h1 hQ 168 0 M rfl (fun _ _ => rfl) (fun j hj => absurd hj (by omega)) (fun _ _ => rfl), fun c => ?_⟩)
  rw [h1] at c
  have := nI_inj' (b := 4) (by omega) (by decide) (Classical.not_not.mp c)
  omega
theorem tM_recordF {Q : Im → Hm → Dm → Prop} (h1 : M 73 11 = 4) (hQ : ∀ M1, M1 73 = updH (M 73) 11 4 → (∀ j, j < 504 → M1 75 j = M 75 (168 + j)) → (∀ j, j < 168 → M1 75 (504 + j) = M 74 j) → (∀ c, c ≠ 73 → c ≠ 75 → M1 c = M c) → Q M1 h (up2 (up2 (up2 (up2 D 77 1 (D 77 2)) 77 2 (D 77 3)) 77 3 (D 77 4)) 77 4 (D 77 0))) : CV (d + 2) nX4_record [.ref 73] M h D Q := by
  refine cv_of rfl rfl (R_X4_record_0 ⟨fun c => absurd h1 c, fun _ => ?_⟩)
  refine lM_shift (fun M2 hR hF => ?_) 504 0 M rfl (fun j hj => absurd hj (by omega)) (fun _ _ => rfl) (fun _ _ => rfl)
  rw [h1, show (4 : Int32) - 1 = nI 3 from rfl]
  have hr : up2 M2 73 11 (nI 3) 73 = updH (M 73) 11 (nI 3) := by rw [show up2 M2 73 11 (nI 3) 73 = updH (M2 73) 11 (nI 3) from up2_row _ _ _ _, hF 73 (by decide)]
  refine lM_rec (M := up2 M2 73 11 (nI 3)) (p := 3) (by decide) (by rw [hr]; rfl) (fun M1 g1 g2 g3 g4 => hQ M1 ?_ ?_ ?_ ?_) 168 0 _ rfl (fun _ _ => rfl) (fun j hj => absurd hj (by omega)) (fun _ _ => rfl)
  · rw [g1, hr, updH_H]; rfl
  · intro j hj; rw [g2 j hj, up2_ne _ _ _ (by decide)]; exact hR j hj
  · intro j hj; rw [g3 j hj, up2_ne _ _ _ (by decide), hF 74 (by decide)]
  · intro c hc hc2; rw [g4 c hc hc2, up2_ne _ _ _ hc]; exact hF c hc2
end M3

/-! the row functions of what is changed, and THE CLASS's State, 3 -/
theorem updF_id {a : V} {k j : Nat} {x : Int32} (h : fd a k j = x) : updF a k j x = a := by
  funext i; unfold updF; by_cases e : i = 40 + 8 * k + j
  · rw [if_pos e, e]; exact h.symm
  · rw [if_neg e]
theorem updT_id {a : V} {t j : Nat} {x : Int32} (h : ft a t j = x) : updT a t j x = a := by
  funext i; unfold updT; by_cases e : i = 4 + 3 * t + j
  · rw [if_pos e, e]; exact h.symm
  · rw [if_neg e]
theorem updH_F {a : V} {i k j : Nat} {x y : Int32} (h : i < 40) : updH (updF a k j x) i y = updF (updH a i y) k j x := by
  funext m; unfold updH updF
  by_cases e : m = i
  · rw [if_pos e, if_neg (by omega)]; exact (if_pos e).symm
  · rw [if_neg e]; by_cases e2 : m = 40 + 8 * k + j
    · rw [if_pos e2, if_pos e2]
    · rw [if_neg e2, if_neg e2]; exact (if_neg e).symm
theorem updH_H {a : V} {i : Nat} {x y : Int32} : updH (updH a i x) i y = updH a i y := by
  funext m; unfold updH; by_cases e : m = i
  · rw [if_pos e, if_pos e]
  · rw [if_neg e, if_neg e, if_neg e]
def goB (a : V) (n : Nat) (o hd b st : Int32) : V := updH (updF (updF (updF (updF a n 0 o) n 1 hd) n 2 (if hd = 1 ∨ hd = 2 then b else -5)) n 3 st) 0 (nI (n + 1))
/-- things deeper than b in drawer k come to b -/
def cb (a : V) (k : Nat) (b : Int32) : Nat → V
  | 0 => updF a k 4 b
  | i + 1 => if ft (cb a k b i) i 0 = nI k ∧ b < ft (cb a k b i) i 1 then updT (cb a k b i) i 1 b else cb a k b i
def asT (a : V) : Nat → V
  | 0 => a
  | i + 1 => updT (asT a i) i 2 0
def asD (a : V) : Nat → V
  | 0 => a
  | i + 1 => updF (updF (updF (asD a i) i 5 0) i 6 0) i 7 0
def asl (a : V) : V := asD (asT (updH a 2 0) 12) 16
def opn (a : V) (k : Nat) : V := if fd a k 1 = 3 then updF (updF a k 6 1) k 7 1 else updF a k 6 1
section AS
variable {a : V} {k t j : Nat}
theorem asT_fd (m : Nat) (hm : m ≤ 12) : fd (asT a m) k j = fd a k j := by
  induction m with
  | zero => rfl
  | succ m ih => rw [asT, fd_T (by omega) (by decide)]; exact ih (by omega)
theorem asT_hd (m : Nat) (hj : j < 4) : asT a m j = a j := by
  induction m with
  | zero => rfl
  | succ m ih => rw [asT, hd_T hj]; exact ih
theorem asT_ft (m : Nat) (hj : j < 3) : ft (asT a m) t j = if j = 2 ∧ t < m then 0 else ft a t j := by
  induction m with
  | zero => rw [if_neg (by omega)]; rfl
  | succ m ih =>
    rw [asT, ft_T (by decide) hj, ih]
    by_cases e : t = m ∧ j = 2
    · rw [if_pos e, if_pos (by omega)]
    · rw [if_neg e]; by_cases e2 : j = 2 ∧ t < m
      · rw [if_pos e2, if_pos (by omega)]
      · rw [if_neg e2, if_neg (by omega)]
theorem asD_ft (m : Nat) (ht : t < 12) (hj : j < 3) : ft (asD a m) t j = ft a t j := by
  induction m with
  | zero => rfl
  | succ m ih => rw [asD, ft_F ht hj, ft_F ht hj, ft_F ht hj]; exact ih
theorem asD_hd (m : Nat) (hj : j < 40) : asD a m j = a j := by
  induction m with
  | zero => rfl
  | succ m ih => rw [asD, hd_F hj, hd_F hj, hd_F hj]; exact ih
theorem asD_fd (m : Nat) (hj : j < 8) : fd (asD a m) k j = if 5 ≤ j ∧ k < m then 0 else fd a k j := by
  induction m with
  | zero => rw [if_neg (by omega)]; rfl
  | succ m ih =>
    rw [asD, fd_F (by decide) hj, fd_F (by decide) hj, fd_F (by decide) hj, ih]
    by_cases e : k = m
    · by_cases e2 : 5 ≤ j
      · rw [if_pos (show 5 ≤ j ∧ k < m + 1 by omega)]
        by_cases e7 : k = m ∧ j = 7
        · rw [if_pos e7]
        · rw [if_neg e7]; by_cases e6 : k = m ∧ j = 6
          · rw [if_pos e6]
          · rw [if_neg e6, if_pos (by omega)]
      · rw [if_neg (by omega), if_neg (by omega), if_neg (by omega), if_neg (by omega), if_neg (by omega)]
    · rw [if_neg (by omega), if_neg (by omega), if_neg (by omega)]
      by_cases e2 : 5 ≤ j ∧ k < m
      · rw [if_pos e2, if_pos (by omega)]
      · rw [if_neg e2, if_neg (by omega)]
theorem asl_fd (hk : k < 16) (hj : j < 8) : fd (asl a) k j = if 5 ≤ j then 0 else fd a k j := by
  unfold asl
  rw [asD_fd _ hj, asT_fd _ (by decide), fd_H (by decide)]
  by_cases e : 5 ≤ j
  · rw [if_pos ⟨e, hk⟩, if_pos e]
  · rw [if_neg (by omega), if_neg e]
theorem asl_ft (ht : t < 12) (hj : j < 3) : ft (asl a) t j = if j = 2 then 0 else ft a t j := by
  unfold asl
  rw [asD_ft _ ht hj, asT_ft _ hj, ft_H (by decide)]
  by_cases e : j = 2
  · rw [if_pos ⟨e, ht⟩, if_pos e]
  · rw [if_neg (by omega), if_neg e]
theorem asl_hd (hj : j < 4) : asl a j = if j = 2 then 0 else a j := by
  unfold asl
  rw [asD_hd _ (by omega), asT_hd _ hj, hd_H]
end AS
section S3
variable {d n S T q : Nat} {M : Im} {h : Hm} {D : Dm} {a : V} {Q : Im → Hm → Dm → Prop}
theorem tS_addDrawer {o hd b st bt : Int32} (hS : St S) (hR : RS M S a q) (h0 : a 0 = nI n) (hn : n < 16) (h5 : fd a n 5 = 0) (hQ : ∀ M1, RS M1 S (updF (goB a n o hd b st) n 4 bt) q → FrS S M M1 → Q M1 h D) : CV (d + 2) nX2_addDrawer [.ref S, .int o, .int hd, .int b, .int st, .int bt] M h D Q := by
  have hz : M S 0 = nI n := hR.1.trans h0
  have hv : vp_in (nI n) 16 := kvp hn (by decide)
  have key : ∀ y : Int32, (y = if hd = 1 ∨ hd = 2 then b else -5) → EvV (d + 1) nX2_addDrawer 53 [(0, .ref S), (1, .int o), (2, .int hd), (3, .int b), (4, .int st), (5, .int bt)] [.int y, .int (nI n), .ref (S + 3)] (up2 (up2 M (S + 1) n o) (S + 2) n hd) h D Q := by
    intro y hy
    have r1 := RS_F n 1 (x := hd) (by decide) hn (RS_F n 0 (x := o) (by decide) hn hR)
    have r2 := RS_F n 3 (x := st) (by decide) hn (RS_F n 2 (x := y) (by decide) hn r1)
    have z1 : up2 (up2 (up2 M (S + 1) n o) (S + 2) n hd) (S + 3) n y S 0 = nI n := by
      rw [up2_ne _ _ _ (by omega), up2_ne _ _ _ (by omega), up2_ne _ _ _ (by omega)]; exact hz
    refine R_X2_addDrawer_53 hS ⟨hv, ?_⟩
    rw [kcl hn, z1, kcl hn]
    refine ⟨hv, fun M1 e1 => ?_⟩
    have z2 : M1 S 0 = nI n := by rw [e1, up2_ne _ _ _ (by omega)]; exact z1
    have z3 : up2 M1 (S + 5) n bt S 0 = nI n := by rw [up2_ne _ _ _ (by omega)]; exact z2
    rw [z2, kcl hn, z3, kcl hn]
    refine ⟨hv, hv, fun M2 e2 => ?_⟩
    have z4 : M2 S 0 = nI n := by rw [e2, up2_ne _ _ _ (by omega)]; exact z3
    have r3 : RS M1 S (updF (updF (updF (updF a n 0 o) n 1 hd) n 2 y) n 3 st) q := e1 ▸ r2
    have r4 : RS M2 S _ q := e2 ▸ RS_F n 5 (x := 0) (by decide) hn (RS_F n 4 (x := bt) (by decide) hn r3)
    have r5 := RS_H (x := M2 S 0 + 1) 0 (by decide) r4
    refine hQ _ ?_ ?_
    · have e : updH (updF (updF (updF (updF (updF (updF a n 0 o) n 1 hd) n 2 y) n 3 st) n 4 bt) n 5 0) 0 (M2 S 0 + 1) = updF (goB a n o hd b st) n 4 bt := by
        rw [updF_id (k := n) (j := 5) (by rw [fd_F_ne (by omega) (by decide) (by decide), fd_F_ne (by omega) (by decide) (by decide), fd_F_ne (by omega) (by decide) (by decide), fd_F_ne (by omega) (by decide) (by decide), fd_F_ne (by omega) (by decide) (by decide)]; exact h5)]
        rw [updH_F (by decide), z4, hy]
        unfold goB
        rw [lit]
      rw [← e]; exact r5
    · rw [e2, e1]
      exact ((((((((FrS.refl S M).up 1 _ _ (by decide)).up 2 _ _ (by decide)).up 3 _ _ (by decide)).up 4 _ _ (by decide)).up 5 _ _ (by decide)).up 6 _ _ (by decide)).up0 _ _)
  refine cv_of rfl rfl (R_X2_addDrawer_0 hS ⟨fun c => ?_, fun _ => ?_⟩)
  · rw [hz] at c; exact absurd ((nI_leI (a := 16) (by omega) (by omega)).mp c) (by omega)
  · have z1 : up2 M (S + 1) n o S 0 = nI n := by rw [up2_ne _ _ _ (by omega)]; exact hz
    rw [hz, kcl hn, z1, kcl hn]
    refine ⟨hv, hv, fun M2 e2 => ?_⟩
    have z2 : M2 S 0 = nI n := by rw [e2, up2_ne _ _ _ (by omega)]; exact z1
    rw [z2]
    subst e2
    exact ⟨fun c => key _ (by rw [if_pos (Or.inl c)]), fun c1 => ⟨fun c2 => key _ (by rw [if_neg (by simp [c1, c2])]), fun c2 => key _ (by rw [if_pos (Or.inr (Classical.not_not.mp c2))])⟩⟩
theorem lS_changeBottoms {k : Nat} {b : Int32} (hS : St S) (hQ : ∀ M1, RS M1 S (cb a k b 12) q → FrS S M M1 → Q M1 h D) : ∀ (m i : Nat) (M2 : Im), i + m = 12 → RS M2 S (cb a k b i) q → FrS S M M2 → EvV (d + 1) nX2_changeBottoms 9 [(0, .ref S), (1, .int (nI k)), (2, .int b), (3, .int (nI i))] [] M2 h D Q
  | 0, i, M2, hi, hR, hF => by
    obtain rfl : i = 12 := by omega
    exact R_X2_changeBottoms_9 hS ⟨fun _ => hQ _ hR hF, fun c => absurd ((nI_leI (a := 12) (by omega) (by omega)).mpr (by omega)) c⟩
  | m + 1, i, M2, hi, hR, hF => by
    have ht : i < 12 := by omega
    obtain ⟨e7, e8⟩ := hR.2.2.2.2.2.2.2.2 i ht
    refine R_X2_changeBottoms_9 hS ⟨fun c => absurd ((nI_leI (a := 12) (by omega) (by omega)).mp c) (by omega), fun _ => ⟨kvp ht (by decide), ?_⟩⟩
    rw [nI_clamp (by omega), e7, e8, nI_1]
    refine ⟨fun c => ?_, fun c => ⟨kvp ht (by decide), fun c2 => ?_, fun c2 => ⟨kvp ht (by decide), ?_⟩⟩⟩
    · refine lS_changeBottoms hS hQ m (i + 1) _ (by omega) ?_ hF
      rw [cb, if_neg (fun z => c z.1)]; exact hR
    · refine lS_changeBottoms hS hQ m (i + 1) _ (by omega) ?_ hF
      rw [cb, if_neg (fun z => absurd c2 (Int32.not_le.mpr z.2))]; exact hR
    · refine lS_changeBottoms hS hQ m (i + 1) _ (by omega) ?_ (hF.up 8 _ _ (by decide))
      rw [cb, if_pos ⟨Classical.not_not.mp c, Int32.not_le.mp c2⟩]
      exact RS_T i 1 (by decide) ht hR
theorem tS_changeBottoms {k : Nat} {b : Int32} (hS : St S) (hR : RS M S a q) (hk : k < 16) (hQ : ∀ M1, RS M1 S (cb a k b 12) q → FrS S M M1 → Q M1 h D) : CV (d + 2) nX2_changeBottoms [.ref S, .int (nI k), .int b] M h D Q := by
  refine cv_of rfl rfl (R_X2_changeBottoms_0 hS ⟨kvp hk (by decide), ?_⟩)
  rw [kcl hk]
  exact lS_changeBottoms hS hQ 12 0 _ rfl (RS_F k 4 (by decide) hk hR) ((FrS.refl S M).up 5 _ _ (by decide))
/-- what putBack has after i drawers -/
def RSp (M : Im) (S : Nat) (a : V) (i : Nat) : Prop :=
  M S 0 = a 0 ∧ M S 1 = 0 ∧ M S 2 = 0 ∧ M S 3 = 0 ∧ M S 4 = 0 ∧ M S 5 = 0 ∧ M S 6 = 0 ∧
  (∀ k, k < 16 → M (S + 1) k = fd a k 0 ∧ M (S + 2) k = fd a k 1 ∧ M (S + 3) k = fd a k 2 ∧ M (S + 4) k = fd a k 3 ∧ M (S + 5) k = fd a k 4 ∧ (k < i → M (S + 6) k = 0)) ∧
  (∀ t, t < 12 → M (S + 7) t = ft a t 0 ∧ M (S + 8) t = ft a t 1)
theorem lS_putBack (hS : St S) (hQ : ∀ M1, RSp M1 S a 16 → FrS S M M1 → Q M1 h D) : ∀ (m i : Nat) (M2 : Im), i + m = 16 → RSp M2 S a i → FrS S M M2 → EvV (d + 1) nX2_putBack 32 [(0, .ref S), (1, .int (nI i))] [] M2 h D Q
  | 0, i, M2, hi, hR, hF => by
    obtain rfl : i = 16 := by omega
    exact R_X2_putBack_32 hS ⟨fun _ => hQ _ hR hF, fun c => absurd ((nI_leI (a := 16) (by omega) (by omega)).mpr (by omega)) c⟩
  | m + 1, i, M2, hi, hR, hF => by
    have hk : i < 16 := by omega
    refine R_X2_putBack_32 hS ⟨fun c => absurd ((nI_leI (a := 16) (by omega) (by omega)).mp c) (by omega), fun _ => ⟨kvp hk (by decide), ?_⟩⟩
    rw [kcl hk, nI_1]
    refine lS_putBack hS hQ m (i + 1) _ (by omega) ?_ (hF.up 6 _ _ (by decide))
    obtain ⟨h0, h1, h2, h3, h4, h5, h6, h7, h8⟩ := hR
    unfold RSp
    rw [up2_ne _ _ _ (show S ≠ S + 6 by omega), up2_ne _ _ _ (show S + 1 ≠ S + 6 by omega), up2_ne _ _ _ (show S + 2 ≠ S + 6 by omega), up2_ne _ _ _ (show S + 3 ≠ S + 6 by omega), up2_ne _ _ _ (show S + 4 ≠ S + 6 by omega), up2_ne _ _ _ (show S + 5 ≠ S + 6 by omega), up2_ne _ _ _ (show S + 7 ≠ S + 6 by omega), up2_ne _ _ _ (show S + 8 ≠ S + 6 by omega)]
    refine ⟨h0, h1, h2, h3, h4, h5, h6, fun k hk => ?_, h8⟩
    obtain ⟨g1, g2, g3, g4, g5, g6⟩ := h7 k hk
    refine ⟨g1, g2, g3, g4, g5, fun hki => ?_⟩
    unfold up2
    by_cases e : k = i
    · rw [if_pos ⟨rfl, e⟩]
    · rw [if_neg (fun z => e z.2)]; exact g6 (by omega)
theorem tS_putBack (hS : St S) (hR : RS M S a q) (hQ : ∀ M1, RS M1 S (updH (asl a) 1 0) 0 → FrS S M M1 → Q M1 h D) : CV (d + 2) nX2_putBack [.ref S] M h D Q := by
  obtain ⟨h0, h1, h2, h3, h4, h5, h6, h7, h8⟩ := hR
  refine cv_of rfl rfl (R_X2_putBack_0 hS ?_)
  refine lS_putBack (a := a) hS (fun M1 hP hF => hQ M1 ?_ hF) 16 0 _ rfl ?_ ((((((((FrS.refl S M).up0 _ _).up0 _ _).up0 _ _).up0 _ _).up0 _ _).up0 _ _))
  · obtain ⟨g0, g1, g2, g3, g4, g5, g6, g7, g8⟩ := hP
    refine ⟨?_, ?_, ?_, g3, ?_, ?_, ?_, fun k hk => ?_, fun t ht => ?_⟩
    · rw [hd_H, if_neg (by decide), asl_hd (by decide), if_neg (by decide)]; exact g0
    · rw [hd_H, if_pos rfl]; exact g1
    · rw [hd_H, if_neg (by decide), asl_hd (by decide), if_pos rfl]; exact g2
    · rw [g4]; exact bs_w (bs_0 16) (fun k hk => by rw [fd_H (by decide), asl_fd hk (by decide), if_pos (by decide)]; rfl)
    · rw [g5]; exact bs_w (bs_0 16) (fun k hk => by rw [fd_H (by decide), asl_fd hk (by decide), if_pos (by decide)]; rfl)
    · rw [g6]; exact bs_w (bs_0 12) (fun t ht => by rw [ft_H (by decide), asl_ft ht (by decide), if_pos (by decide)]; rfl)
    · obtain ⟨e1, e2, e3, e4, e5, e6⟩ := g7 k hk
      simp only [fd_H (show 1 < 4 by decide)]
      rw [asl_fd hk (by decide), asl_fd hk (by decide), asl_fd hk (by decide), asl_fd hk (by decide), asl_fd hk (by decide), asl_fd hk (by decide)]
      exact ⟨e1, e2, e3, e4, e5, e6 hk⟩
    · simp only [ft_H (show 1 < 4 by decide)]
      rw [asl_ft ht (by decide), asl_ft ht (by decide)]
      exact g8 t ht
  · refine ⟨?_, ?_, ?_, ?_, ?_, ?_, ?_, fun k hk => ?_, fun t ht => ?_⟩
    · simp [up2, h0]
    · simp [up2]
    · simp [up2]
    · simp [up2]
    · simp [up2]
    · simp [up2]
    · simp [up2]
    · obtain ⟨e1, e2, e3, e4, e5, -⟩ := h7 k hk
      refine ⟨?_, ?_, ?_, ?_, ?_, fun z => absurd z (by omega)⟩
      · iterate 6 rw [up2_ne _ _ _ (by omega)]
        exact e1
      · iterate 6 rw [up2_ne _ _ _ (by omega)]
        exact e2
      · iterate 6 rw [up2_ne _ _ _ (by omega)]
        exact e3
      · iterate 6 rw [up2_ne _ _ _ (by omega)]
        exact e4
      · iterate 6 rw [up2_ne _ _ _ (by omega)]
        exact e5
    · obtain ⟨e7, e8⟩ := h8 t ht
      refine ⟨?_, ?_⟩
      · iterate 6 rw [up2_ne _ _ _ (by omega)]
        exact e7
      · iterate 6 rw [up2_ne _ _ _ (by omega)]
        exact e8
theorem tS_setOpen {k : Nat} (hS : St S) (hR : RS M S a q) (hk : k < 16) (hQ : ∀ M1, RS M1 S (opn a k) q → FrS S M M1 → Q M1 h D) : CV (d + 3) nX2_setOpen [.ref S, .int (nI k)] M h D Q := by
  refine cv_of rfl rfl (R_X2_setOpen_0 hS (t_bit ⟨kvp hk (by decide), ?_⟩))
  have e2 := (hR.2.2.2.2.2.2.2.1 k hk).2.1
  have r1 := RS_set k 4 hk (Or.inl rfl) true _ (bs_put hR.2.2.2.2.1 hk (by decide)) hR
  rw [kcl hk, up2_ne _ _ _ (by omega), e2]
  unfold opn at hQ
  refine ⟨fun c => ?_, fun c => t_bit ?_⟩
  · rw [if_neg c] at hQ
    exact hQ _ r1 ((FrS.refl S M).up0 _ _)
  · rw [if_pos (Classical.not_not.mp c)] at hQ
    exact hQ _ (RS_set k 5 hk (Or.inr rfl) true _ (bs_put r1.2.2.2.2.2.1 hk (by decide)) r1) (((FrS.refl S M).up0 _ _).up0 _ _)
end S3

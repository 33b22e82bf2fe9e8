/-! the ints behind the constructors: nothing from place 6000 on -/
def InvI (σ : Mm) : Prop := ∀ c k, 6000 ≤ k → σ.2.1 c k = 0
theorem SH_le : ∀ c, (SH c).2 ≤ 5776 := by
  have h : ∀ q ∈ SHL, q.2 ≤ 5776 := by decide
  intro c
  by_cases hl : c < SHL.length
  · have e : SH c = SHL[c] := by unfold SH; rw [List.getD_eq_getElem?_getD, List.getElem?_eq_getElem hl]; rfl
    rw [e]
    exact h _ (List.getElem_mem hl)
  · have e : SH c = (9, 0) := by unfold SH; rw [List.getD_eq_getElem?_getD, List.getElem?_eq_none (by omega)]; rfl
    rw [e]; decide
theorem InvI_alc {σ : Mm} (h : InvI σ) : InvI (alc σ) := by
  intro c k hk
  show rw2 σ.2.1 σ.1 (fun _ => 0) c k = 0
  by_cases hc : c = σ.1
  · subst hc; rw [rw2_row]
  · rw [rw2_ne _ _ hc]; exact h c k hk
theorem InvI_setI {σ : Mm} (h : InvI σ) {c k : Nat} (x : Int32) (hk : k < 6000) : InvI (setI σ c k x) := by
  intro a j hj
  show up2 σ.2.1 c k x a j = 0
  unfold up2
  rw [if_neg (by omega)]
  exact h a j hj
set_option maxHeartbeats 4000000 in
theorem stepE_invI {dd : Nat} {call : Nat → List Value → Mm → Option (Option Value × Mm)} (hc : ∀ y as σ v σ1, call y as σ = some (v, σ1) → InvI σ → InvI σ1) (y pc : Nat) (L : Lc) (st : List Value) (σ : Mm) (pc1 : Nat) (L1 : Lc) (st1 : List Value) (σ1 : Mm)
    (h : stepE dd call y pc L st σ = some (.inl (pc1, L1, st1, σ1))) (hI : InvI σ) : InvI σ1 := by
  unfold stepE at h
  cases hT : TB y pc with
  | none => rw [hT] at h; cases h
  | some q =>
    obtain ⟨i, n⟩ := q
    rw [hT] at h
    cases i
    all_goals (dsimp only at h)
    all_goals (repeat' (split at h))
    all_goals (try (cases h; done))
    all_goals (cases h)
    all_goals first
      | exact hI
      | exact InvI_alc hI
      | exact hc _ _ _ _ _ (by assumption) hI
      | exact InvI_setI hI _ (Nat.lt_of_lt_of_le (by rename_i h0; exact h0.2.2.2.1) (Nat.le_trans (nf_le _) (by decide)))
      | exact InvI_setI hI _ (Nat.lt_of_lt_of_le (by rename_i h0 h1 h2; exact h0.2.2.2.1) (Nat.le_trans (nf_le _) (by decide)))
      | exact InvI_setI hI _ (Nat.lt_of_lt_of_le (by rename_i h0 h1 h2 h3; exact h0.2.2.2.1) (Nat.le_trans (nf_le _) (by decide)))
      | exact InvI_setI hI _ (Nat.lt_of_lt_of_le (by rename_i h0 h1; exact h0.2.2.2.1) (Nat.le_trans (nf_le _) (by decide)))
      | exact InvI_setI hI _ (Nat.lt_of_lt_of_le (by rename_i h0; exact Nat.not_le.mp (fun q => h0.2.2.2 (Or.inr q))) (Nat.le_trans (SH_le _) (by decide)))
theorem runE_invI {dd : Nat} {call : Nat → List Value → Mm → Option (Option Value × Mm)} (hc : ∀ y as σ v σ1, call y as σ = some (v, σ1) → InvI σ → InvI σ1) (y : Nat) :
    ∀ (n pc : Nat) (L : Lc) (st : List Value) (σ : Mm) (v : Option Value) (σf : Mm), runE dd call y n pc L st σ = some (v, σf) → InvI σ → InvI σf
  | 0, _, _, _, _, _, _, h, _ => by cases h
  | n + 1, pc, L, st, σ, v, σf, h, hI => by
    unfold runE at h
    cases hs : stepE dd call y pc L st σ with
    | none => rw [hs] at h; cases h
    | some q =>
      rw [hs] at h
      rcases q with ⟨pc1, L1, st1, σ1⟩ | q
      · exact runE_invI hc y n pc1 L1 st1 σ1 v σf h (stepE_invI hc y pc L st σ pc1 L1 st1 σ1 hs hI)
      · dsimp only at h
        cases h
        rw [← (stepE_ret (callP := fun _ _ _ _ _ => True) y pc L st σ v σf hs).1]
        exact hI
theorem execE_invI (fuel : Nat) : ∀ (d y : Nat) (as : List Value) (σ : Mm) (v : Option Value) (σ1 : Mm), execE fuel d y as σ = some (v, σ1) → InvI σ → InvI σ1
  | 0, _, _, _, _, _, h, _ => by cases h
  | d + 1, y, as, σ, v, σ1, h, hI => by
    unfold execE at h
    split at h
    · exact runE_invI (fun y as σ v σ1 h => execE_invI fuel d y as σ v σ1 h) y fuel 0 _ _ _ _ _ h hI
    · cases h
set_option maxRecDepth 100000 in
set_option maxHeartbeats 4000000 in
theorem mX_invI : InvI mX := execE_invI 400 9 nX3_init [.ref 0] (alc (0, fun _ _ => 0, fun _ _ => none, fun _ _ => 0)) none mX (opt_get (by decide +kernel)) (InvI_alc (fun _ _ _ => rfl))
set_option maxRecDepth 100000 in
set_option maxHeartbeats 4000000 in
theorem mXM_invI : InvI mXM := execE_invI 400 9 nX4_init [.ref 73] (alc mX) none mXM (opt_get (by decide +kernel)) (InvI_alc mX_invI)
/-- the row at the start -/
def z0 : V := mXM.2.1 74
def A0 : Ab := ((z0, 0), (0, fun _ => (z0, 0)), none, (0, fun _ => 0))
set_option maxRecDepth 100000 in
set_option maxHeartbeats 4000000 in
theorem z0_c : ((List.range 168).all fun j => z0 j == (if 4 ≤ j ∧ j < 40 ∧ (j - 4) % 3 = 0 then -5 else 0)) = true := by decide +kernel
theorem z0_at {j : Nat} (h : j < 168) : z0 j = if 4 ≤ j ∧ j < 40 ∧ (j - 4) % 3 = 0 then -5 else 0 := by
  have := List.all_eq_true.mp z0_c j (List.mem_range.mpr h)
  exact beq_iff_eq.mp this
set_option maxRecDepth 100000 in
set_option maxHeartbeats 4000000 in
theorem z0_mid : ((List.range 5832).all fun j => z0 (168 + j) == 0) = true := by decide +kernel
theorem z0_hi : hiOk z0 := fun j hj => by
  by_cases h : j < 6000
  · have := List.all_eq_true.mp z0_mid (j - 168) (List.mem_range.mpr (by omega))
    rw [show 168 + (j - 168) = j by omega] at this
    exact beq_iff_eq.mp this
  · exact mXM_invI 74 j (by omega)
theorem z0_fd {k j : Nat} (hk : k < 16) (hj : j < 8) : fd z0 k j = 0 := by
  have := z0_at (j := 40 + 8 * k + j) (by omega)
  rw [if_neg (by omega)] at this; exact this
theorem z0_ft0 {t : Nat} (ht : t < 12) : ft z0 t 0 = -5 := by
  have := z0_at (j := 4 + 3 * t + 0) (by omega)
  rw [if_pos (by omega)] at this; exact this
theorem z0_ft {t j : Nat} (ht : t < 12) (hj : j < 3) (h0 : j ≠ 0) : ft z0 t j = 0 := by
  have := z0_at (j := 4 + 3 * t + j) (by omega)
  rw [if_neg (by omega)] at this; exact this
theorem z0_hd {j : Nat} (hj : j < 4) : z0 j = 0 := by
  have := z0_at (j := j) (by omega)
  rw [if_neg (by omega)] at this; exact this
theorem wf_z0 : wf 0 z0 :=
  ⟨by omega, z0_hd (by decide), Or.inl (z0_hd (by decide)), fun k hk => absurd hk (Nat.not_lt_zero k), fun k hk => absurd hk (Nat.not_lt_zero k), ⟨fun k hk => ⟨Or.inl (z0_fd hk (by decide)), Or.inl (z0_fd hk (by decide))⟩, fun t ht => Or.inl (z0_ft ht (by decide) (by decide))⟩, fun k hk => absurd hk (Nat.not_lt_zero k), fun t ht => Or.inl (z0_ft0 ht), fun k _ hk => ⟨z0_fd hk (by decide), z0_fd hk (by decide), z0_fd hk (by decide), z0_fd hk (by decide)⟩, fun _ => ⟨fun k hk => ⟨z0_fd hk (by decide), z0_fd hk (by decide), z0_fd hk (by decide)⟩, fun t ht => z0_ft ht (by decide) (by decide)⟩, z0_hi⟩
set_option maxRecDepth 100000 in
set_option maxHeartbeats 4000000 in
theorem st_x : (((List.range 7).all fun j => mXM.2.1 1 j == 0) && (((List.range 6).all fun j => (List.range 16).all fun k => mXM.2.1 (2 + j) k == 0) && (((List.range 12).all fun t => mXM.2.1 8 t == -5 && mXM.2.1 9 t == 0) && ((mXM.2.1 0 6 == 0 && mXM.2.1 0 7 == 0) && (mXM.2.1 31 1 == 0 && (mXM.2.1 73 10 == 0 && (mXM.2.1 73 11 == 0 && (mXM.2.1 73 12 == 0 && mXM.2.2.2 77 0 == 0)))))))) = true := by decide +kernel
theorem IX_gen {M : Im} {h : Hm} {z : V} (zh : ∀ j, j < 4 → z j = 0) (zf : ∀ k j, k < 16 → j < 8 → fd z k j = 0) (zt0 : ∀ t, t < 12 → ft z t 0 = -5) (zt : ∀ t j, t < 12 → j < 3 → j ≠ 0 → ft z t j = 0) (e1 : ∀ j, j < 7 → M 1 j = 0) (e2 : ∀ j k, j < 6 → k < 16 → M (2 + j) k = 0) (e3 : ∀ t, t < 12 → M 8 t = -5 ∧ M 9 t = 0) (h4 : M 0 6 = 0) (h5 : M 0 7 = 0) (h6 : M 31 1 = 0) (hh : ∀ i, i < 4 → ∃ S, hst S ∧ h i = some S) (hi : ∀ i j, i < 4 → j < 4 → h i = h j → i = j) : IX M h ((z, 0), (0, fun _ => (z, 0)), none, (0, fun _ => 0)) := by
  refine ⟨⟨?_, ?_, ?_, ?_, ?_, ?_, ?_, fun k hk => ⟨?_, ?_, ?_, ?_, ?_, ?_⟩, fun t ht => ⟨?_, ?_⟩⟩, ⟨h4, Nat.zero_le _, hh, hi, fun i S hi => absurd hi (Nat.not_lt_zero i)⟩, h5, h6, Nat.zero_le _, fun i hi => absurd hi (Nat.not_lt_zero i)⟩
  · rw [e1 0 (by decide)]; exact (zh 0 (by decide)).symm
  · rw [e1 1 (by decide)]; exact (zh 1 (by decide)).symm
  · rw [e1 2 (by decide)]; exact (zh 2 (by decide)).symm
  · exact e1 3 (by decide)
  · rw [e1 4 (by decide)]; exact bs_w (bs_0 16) (fun k hk => by show false = (fd z k 6 == 1); rw [zf k 6 hk (by decide)]; rfl)
  · rw [e1 5 (by decide)]; exact bs_w (bs_0 16) (fun k hk => by show false = (fd z k 7 == 1); rw [zf k 7 hk (by decide)]; rfl)
  · rw [e1 6 (by decide)]; exact bs_w (bs_0 12) (fun t ht => by show false = (ft z t 2 == 1); rw [zt t 2 ht (by decide) (by decide)]; rfl)
  · exact (e2 0 k (by decide) hk).trans (zf k 0 hk (by decide)).symm
  · exact (e2 1 k (by decide) hk).trans (zf k 1 hk (by decide)).symm
  · exact (e2 2 k (by decide) hk).trans (zf k 2 hk (by decide)).symm
  · exact (e2 3 k (by decide) hk).trans (zf k 3 hk (by decide)).symm
  · exact (e2 4 k (by decide) hk).trans (zf k 4 hk (by decide)).symm
  · exact (e2 5 k (by decide) hk).trans (zf k 5 hk (by decide)).symm
  · exact (e3 t ht).1.trans (zt0 t ht).symm
  · exact (e3 t ht).2.trans (zt t 1 ht (by decide) (by decide)).symm
theorem IM_gen {M : Im} {D : Dm} {z : V} (h74 : M 74 = z) (hd : D 77 0 = dq 0) (h11 : M 73 11 = 0) (h12 : M 73 12 = 0) (h10 : M 73 10 = 0) : IM M D ((z, 0), (0, fun _ => (z, 0)), none, (0, fun _ => 0)) :=
  ⟨⟨h74, hd⟩, ⟨h11, fun i hi => absurd hi (Nat.not_lt_zero i)⟩, h12, h10, fun i hi => absurd hi (Nat.not_lt_zero i)⟩
theorem hh_0 : ∀ i, i < 4 → ∃ S, hst S ∧ PF 28 i = some S := fun i hi => by
  rcases (by omega : i = 0 ∨ i = 1 ∨ i = 2 ∨ i = 3) with rfl | rfl | rfl | rfl
  · exact ⟨37, Or.inl rfl, rfl⟩
  · exact ⟨46, Or.inr (Or.inl rfl), rfl⟩
  · exact ⟨55, Or.inr (Or.inr (Or.inl rfl)), rfl⟩
  · exact ⟨64, Or.inr (Or.inr (Or.inr rfl)), rfl⟩
theorem hi_0 : ∀ i j, i < 4 → j < 4 → PF 28 i = PF 28 j → i = j := fun i j hi hj hij => by
  have key : ∀ i j : Fin 4, PF 28 i.val = PF 28 j.val → i = j := by decide
  exact congrArg Fin.val (key ⟨i, hi⟩ ⟨j, hj⟩ hij)
def mI : Im := mXM.2.1
def mD : Dm := mXM.2.2.2
theorem st_y : (((List.range 7).all fun j => mI 1 j == 0) && (((List.range 6).all fun j => (List.range 16).all fun k => mI (2 + j) k == 0) && (((List.range 12).all fun t => mI 8 t == -5 && mI 9 t == 0) && ((mI 0 6 == 0 && mI 0 7 == 0) && (mI 31 1 == 0 && (mI 73 10 == 0 && (mI 73 11 == 0 && (mI 73 12 == 0 && mD 77 0 == 0)))))))) = true := st_x
theorem st_z : (∀ j, j < 7 → mI 1 j = 0) ∧ (∀ j k, j < 6 → k < 16 → mI (2 + j) k = 0) ∧ (∀ t, t < 12 → mI 8 t = -5 ∧ mI 9 t = 0) ∧ (mI 0 6 = 0 ∧ mI 0 7 = 0) ∧ mI 31 1 = 0 ∧ mI 73 10 = 0 ∧ mI 73 11 = 0 ∧ mI 73 12 = 0 ∧ mD 77 0 = 0 := by
  have h := st_y
  generalize mI = M at h ⊢
  generalize mD = D at h ⊢
  rw [Bool.and_eq_true, Bool.and_eq_true, Bool.and_eq_true, Bool.and_eq_true, Bool.and_eq_true, Bool.and_eq_true, Bool.and_eq_true, Bool.and_eq_true, Bool.and_eq_true] at h
  obtain ⟨h1, h2, h3, ⟨h4, h5⟩, h6, h7, h8, h9, h10⟩ := h
  exact ⟨fun j hj => beq_iff_eq.mp (List.all_eq_true.mp h1 j (List.mem_range.mpr hj)), fun j k hj hk => beq_iff_eq.mp (List.all_eq_true.mp (List.all_eq_true.mp h2 j (List.mem_range.mpr hj)) k (List.mem_range.mpr hk)), fun t ht => by
    have := List.all_eq_true.mp h3 t (List.mem_range.mpr ht)
    rw [Bool.and_eq_true] at this
    exact ⟨beq_iff_eq.mp this.1, beq_iff_eq.mp this.2⟩, ⟨beq_iff_eq.mp h4, beq_iff_eq.mp h5⟩, beq_iff_eq.mp h6, beq_iff_eq.mp h7, beq_iff_eq.mp h8, beq_iff_eq.mp h9, beq_iff_eq.mp h10⟩
theorem z0_all : (∀ j, j < 4 → z0 j = 0) ∧ (∀ k j, k < 16 → j < 8 → fd z0 k j = 0) ∧ (∀ t, t < 12 → ft z0 t 0 = -5) ∧ ∀ t j, t < 12 → j < 3 → j ≠ 0 → ft z0 t j = 0 := ⟨fun _ h => z0_hd h, fun _ _ h1 h2 => z0_fd h1 h2, fun _ h => z0_ft0 h, fun _ _ h1 h2 h3 => z0_ft h1 h2 h3⟩
theorem mI_74 : mI 74 = z0 := rfl
theorem IX_0 : IX mI (PF 28) A0 := IX_gen z0_all.1 z0_all.2.1 z0_all.2.2.1 z0_all.2.2.2 st_z.1 st_z.2.1 st_z.2.2.1 st_z.2.2.2.1.1 st_z.2.2.2.1.2 st_z.2.2.2.2.1 hh_0 hi_0
theorem IM_0 : IM mI mD A0 := IM_gen mI_74 (st_z.2.2.2.2.2.2.2.2.trans dq_0.symm) st_z.2.2.2.2.2.2.1 st_z.2.2.2.2.2.2.2.1 st_z.2.2.2.2.2.1

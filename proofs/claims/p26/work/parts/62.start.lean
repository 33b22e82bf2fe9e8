/-! the start -/
/-- the row at the start -/
def z0 : V := fun j => if 4 ≤ j ∧ j < 40 ∧ (j - 4) % 3 = 0 then -5 else 0
def A0 : Ab := ((z0, 0), (0, fun _ => (z0, 0)), none, (0, fun _ => 0))
theorem z0_hi : hiOk z0 := fun j hj => by unfold z0; rw [if_neg (by omega)]
theorem z0_fd {k j : Nat} (hk : k < 16) (hj : j < 8) : fd z0 k j = 0 := by unfold fd z0; rw [if_neg (by omega)]
theorem z0_ft0 {t : Nat} (ht : t < 12) : ft z0 t 0 = -5 := by unfold ft z0; rw [if_pos (by omega)]
theorem z0_ft {t j : Nat} (ht : t < 12) (hj : j < 3) (h0 : j ≠ 0) : ft z0 t j = 0 := by unfold ft z0; rw [if_neg (by omega)]
theorem z0_hd {j : Nat} (hj : j < 4) : z0 j = 0 := by unfold z0; rw [if_neg (by omega)]
theorem wf_z0 : wf 0 z0 :=
  ⟨by omega, z0_hd (by decide), Or.inl (z0_hd (by decide)), fun k hk => absurd hk (Nat.not_lt_zero k), fun k hk => absurd hk (Nat.not_lt_zero k), ⟨fun k hk => ⟨Or.inl (z0_fd hk (by decide)), Or.inl (z0_fd hk (by decide))⟩, fun t ht => Or.inl (z0_ft ht (by decide) (by decide))⟩, fun k hk => absurd hk (Nat.not_lt_zero k), fun t ht => Or.inl (z0_ft0 ht), fun k _ hk => ⟨z0_fd hk (by decide), z0_fd hk (by decide), z0_fd hk (by decide), z0_fd hk (by decide)⟩, fun _ => ⟨fun k hk => ⟨z0_fd hk (by decide), z0_fd hk (by decide), z0_fd hk (by decide)⟩, fun t ht => z0_ft ht (by decide) (by decide)⟩, z0_hi⟩
theorem IX_gen {M : Im} {h : Hm} {z : V} (zh : ∀ j, j < 4 → z j = 0) (zf : ∀ k j, k < 16 → j < 8 → fd z k j = 0) (zt0 : ∀ t, t < 12 → ft z t 0 = -5) (zt : ∀ t j, t < 12 → j < 3 → j ≠ 0 → ft z t j = 0) (e1 : ∀ j, j < 7 → M 1 j = 0) (e2 : ∀ j k, j < 6 → k < 16 → M (2 + j) k = 0) (e3 : ∀ t, t < 12 → M 8 t = -5 ∧ M 9 t = 0) (h4 : M 0 6 = 0) (h5 : M 0 7 = 0) (h6 : M 31 1 = 0) (hh : ∀ i, i < 4 → ∃ S, hst S ∧ h i = some S) (hi : ∀ i j, i < 4 → j < 4 → h i = h j → i = j) : IX M h ((z, 0), (0, fun _ => (z, 0)), none, (0, fun _ => 0)) := by
  refine ⟨⟨?_, ?_, ?_, ?_, ?_, ?_, ?_, fun k hk => ⟨?_, ?_, ?_, ?_, ?_, ?_⟩, fun t ht => ⟨?_, ?_⟩⟩, ⟨h4, Nat.zero_le _, hh, hi, fun i S hi => absurd hi (Nat.not_lt_zero i)⟩, h5, h6, Nat.zero_le _, fun i hi => absurd hi (Nat.not_lt_zero i)⟩
  · rw [e1 0 (by decide)]; exact (zh 0 (by decide)).symm
  · rw [e1 1 (by decide)]; exact (zh 1 (by decide)).symm
  · rw [e1 2 (by decide)]; exact (zh 2 (by decide)).symm
  · exact e1 3 (by decide)
  · rw [e1 4 (by decide)]; exact bs_w (bs_0 16) (fun k hk => by show false = (fd z k 6 == 1); rw [zf k 6 hk (by decide)]; rfl)
  · rw [e1 5 (by decide)]; exact bs_w (bs_0 16) (fun k hk => by show false = (fd z k 7 == 1); rw [zf k 7 hk (by decide)]; rfl)
  · rw [e1 6 (by decide)]; exact bs_w (bs_0 12) (fun t ht => by show false = (ft z t 2 == 1); rw [zt t 2 ht (by decide) (by decide)]; rfl)
  · exact (e2 0 k (by decide) hk).trans (zf k 0 hk (by decide)).symm
  · exact (e2 1 k (by decide) hk).trans (zf k 1 hk (by decide)).symm
  · exact (e2 2 k (by decide) hk).trans (zf k 2 hk (by decide)).symm
  · exact (e2 3 k (by decide) hk).trans (zf k 3 hk (by decide)).symm
  · exact (e2 4 k (by decide) hk).trans (zf k 4 hk (by decide)).symm
  · exact (e2 5 k (by decide) hk).trans (zf k 5 hk (by decide)).symm
  · exact (e3 t ht).1.trans (zt0 t ht).symm
  · exact (e3 t ht).2.trans (zt t 1 ht (by decide) (by decide)).symm
theorem hh_0 : ∀ i, i < 4 → ∃ S, hst S ∧ PF 28 i = some S := fun i hi => by
  rcases (by omega : i = 0 ∨ i = 1 ∨ i = 2 ∨ i = 3) with rfl | rfl | rfl | rfl
  · exact ⟨37, Or.inl rfl, rfl⟩
  · exact ⟨46, Or.inr (Or.inl rfl), rfl⟩
  · exact ⟨55, Or.inr (Or.inr (Or.inl rfl)), rfl⟩
  · exact ⟨64, Or.inr (Or.inr (Or.inr rfl)), rfl⟩
theorem hi_0 : ∀ i j, i < 4 → j < 4 → PF 28 i = PF 28 j → i = j := fun i j hi hj hij => by
  have key : ∀ i j : Fin 4, PF 28 i.val = PF 28 j.val → i = j := by decide
  exact congrArg Fin.val (key ⟨i, hi⟩ ⟨j, hj⟩ hij)
def mI : Im := mX.2.1
def mD : Dm := mX.2.2.2
set_option maxRecDepth 100000 in
set_option maxHeartbeats 4000000 in
theorem st_y : (((List.range 7).all fun j => mI 1 j == 0) && (((List.range 6).all fun j => (List.range 16).all fun k => mI (2 + j) k == 0) && (((List.range 12).all fun t => mI 8 t == -5 && mI 9 t == 0) && ((mI 0 6 == 0 && mI 0 7 == 0) && mI 31 1 == 0)))) = true := by decide +kernel
theorem IX_0 : IX mI (PF 28) A0 := by
  have h := st_y
  generalize mI = M at h ⊢
  rw [Bool.and_eq_true, Bool.and_eq_true, Bool.and_eq_true, Bool.and_eq_true, Bool.and_eq_true] at h
  obtain ⟨h1, h2, h3, ⟨h4, h5⟩, h6⟩ := h
  exact IX_gen (fun j hj => z0_hd hj) (fun k j hk hj => z0_fd hk hj) (fun t ht => z0_ft0 ht) (fun t j ht hj h0 => z0_ft ht hj h0) (fun j hj => beq_iff_eq.mp (List.all_eq_true.mp h1 j (List.mem_range.mpr hj))) (fun j k hj hk => beq_iff_eq.mp (List.all_eq_true.mp (List.all_eq_true.mp h2 j (List.mem_range.mpr hj)) k (List.mem_range.mpr hk))) (fun t ht => by
    have := List.all_eq_true.mp h3 t (List.mem_range.mpr ht)
    rw [Bool.and_eq_true] at this
    exact ⟨beq_iff_eq.mp this.1, beq_iff_eq.mp this.2⟩) (beq_iff_eq.mp h4) (beq_iff_eq.mp h5) (beq_iff_eq.mp h6) hh_0 hi_0

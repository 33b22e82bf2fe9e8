/-! how many steps are needed, before and behind a step; the three kinds of steps -/
section CT
variable {n : Nat} {e g : V} {s t d k j i s0 : Nat}
noncomputable def tot (n : Nat) (e : V) (d : Nat) : Nat := cO n e d + cT n e d + cL n e d
theorem cB_ne (h : MADE n e g s0) (hw : wf n e) (hd : d < n) (hno : ∀ t, t < 76 → ¬ ND n e s0 t) (hs : s ≠ s0) : cB n e d s = cB n g d s := by
  unfold cB
  refine dB_b ?_
  rw [dB_t, h.cl hw hd hno]
  exact ⟨fun z => z.1, fun z => ⟨z, hs⟩⟩
theorem tot_made (h : MADE n e g s0) (hw : wf n e) (hd : d < n) (hno : ∀ t, t < 76 → ¬ ND n e s0 t) (hc : CLO n e d s0) : tot n e d = tot n g d + 1 := by
  have hn := hw.n16
  have h1 : cB n e d s0 = true := dB_t.mpr hc
  have h2 : cB n g d s0 = false := dB_f.mpr (fun z => ((h.cl hw hd hno).mp z).2 rfl)
  have e1 : i01 (cB n e d s0) = 1 := by rw [h1]; rfl
  have e2 : i01 (cB n g d s0) = 0 := by rw [h2]; rfl
  have ne : ∀ s, s ≠ s0 → i01 (cB n e d s) = i01 (cB n g d s) := fun s hs => by rw [cB_ne h hw hd hno hs]
  unfold tot
  rcases clo_vs hw hd hc with ⟨z, -⟩ | ⟨j, hj, rfl, -⟩ | ⟨k, i, hk, rfl, z1, z2⟩
  · have q1 : cO n e d = cO n g d + 1 := nsum_up (i := s0) (by omega) (fun j _ hne => ne j hne) (by omega)
    have q2 : cT n e d = cT n g d := nsum_w (fun t _ => ne _ (by omega))
    have q3 : cL n e d = cL n g d := nsum_w (fun k _ => by unfold cL1; rw [ne _ (by omega), ne _ (by omega), ne _ (by omega)])
    omega
  · have q1 : cO n e d = cO n g d := nsum_w (fun t _ => ne _ (by omega))
    have q2 : cT n e d = cT n g d + 1 := nsum_up (i := j) hj (fun t _ hne => ne _ (by omega)) (by omega)
    have q3 : cL n e d = cL n g d := nsum_w (fun k _ => by unfold cL1; rw [ne _ (by omega), ne _ (by omega), ne _ (by omega)])
    omega
  · have hb := bm3 hw (show k < 16 by omega)
    have q1 : cO n e d = cO n g d := nsum_w (fun t _ => ne _ (by omega))
    have q2 : cT n e d = cT n g d := nsum_w (fun t _ => ne _ (by omega))
    have q3 : cL n e d = cL n g d + 1 := by
      refine nsum_up (i := k) (by omega) (fun t _ hne => ?_) ?_
      · unfold cL1; rw [ne _ (by omega), ne _ (by omega), ne _ (by omega)]
      · unfold cL1
        rcases (by omega : i = 0 ∨ i = 1 ∨ i = 2) with rfl | rfl | rfl
        · rw [ne (28 + 3 * k + 1) (by omega), ne (28 + 3 * k + 2) (by omega)]
          rw [Nat.add_zero] at e1 e2
          omega
        · rw [ne (28 + 3 * k) (by omega), ne (28 + 3 * k + 2) (by omega)]; omega
        · rw [ne (28 + 3 * k) (by omega), ne (28 + 3 * k + 1) (by omega)]; omega
    omega
theorem tot_le : tot n e d ≤ 76 := by
  have h1 : cO n e d ≤ 16 * 1 := nsum_le (fun k _ => i01_1 _)
  have h2 : cT n e d ≤ 12 * 1 := nsum_le (fun k _ => i01_1 _)
  have h3 : cL n e d ≤ 16 * 3 := nsum_le (fun k _ => by
    unfold cL1
    have := i01_1 (cB n e d (28 + 3 * k)); have := i01_1 (cB n e d (28 + 3 * k + 1)); have := i01_1 (cB n e d (28 + 3 * k + 2))
    omega)
  unfold tot; omega
/-- some step is needed just if the count says so -/
theorem tot_0 (hw : wf n e) (hd : d < n) : tot n e d = 0 ↔ ∀ s, ¬ CLO n e d s := by
  have hn := hw.n16
  constructor
  · intro h s hc
    have h1 : i01 (cB n e d s) = 1 := by rw [show cB n e d s = true from dB_t.mpr hc]; rfl
    have pos : ∀ (f : Nat → Nat) (m i : Nat), i < m → f i ≤ nsum f m := fun f m => by
      induction m with
      | zero => exact fun i hi => absurd hi (Nat.not_lt_zero i)
      | succ m ih =>
        intro i hi
        show f i ≤ nsum f m + f m
        by_cases z : i = m
        · subst z; omega
        · have := ih i (by omega); omega
    unfold tot at h
    rcases clo_vs hw hd hc with ⟨z, -⟩ | ⟨j, hj, rfl, -⟩ | ⟨k, i, hk, rfl, z1, z2⟩
    · have := pos (fun k => i01 (cB n e d k)) 16 s (by omega)
      unfold cO at h; omega
    · have := pos (fun t => i01 (cB n e d (16 + t))) 12 j hj
      unfold cT at h; omega
    · have hb := bm3 hw (show k < 16 by omega)
      have := pos (cL1 n e d) 16 k (by omega)
      have h2 : 1 ≤ cL1 n e d k := by
        unfold cL1
        rcases (by omega : i = 0 ∨ i = 1 ∨ i = 2) with rfl | rfl | rfl
        · rw [Nat.add_zero] at h1; omega
        · omega
        · omega
      unfold cL at h; omega
  · intro h
    have h0 : ∀ s, i01 (cB n e d s) = 0 := fun s => by rw [show cB n e d s = false from dB_f.mpr (h s)]; rfl
    have z : ∀ (f : Nat → Nat) (m : Nat), (∀ i, f i = 0) → nsum f m = 0 := fun f m hf => by
      induction m with
      | zero => rfl
      | succ m ih => show nsum f m + f m = 0; rw [ih, hf]
    unfold tot cO cT cL
    rw [z _ 16 (fun i => h0 i), z _ 12 (fun i => h0 (16 + i)), z _ 16 (fun i => by unfold cL1; rw [h0, h0, h0])]
/-- the three kinds of steps -/
theorem made_O (hw : wf n e) (hk : k < n) : MADE n e (stp (opn e k)) k := by
  have hn := hw.n16
  refine ⟨⟨fun k2 j hk2 hj => ?_, fun t j ht hj => ?_⟩, fun k2 hk2 => ?_, fun j hj => ?_, fun k2 i hk2 hi => ?_⟩
  · rw [stp_fd, opn_fd (by omega) (by omega) (by omega)]
  · rw [stp_ft, opn_ft ht (by omega)]
  · unfold clo
    rw [stp_fd, opn_6]
    by_cases z : k2 = k
    · rw [if_pos z]; exact ⟨fun y => absurd y (by decide), fun y => absurd z y.2⟩
    · rw [if_neg z]; exact ⟨fun y => ⟨y, z⟩, fun y => y.1⟩
  · rw [stp_ft, opn_ft hj (by decide)]
    exact ⟨fun y => ⟨y, by omega⟩, fun y => y.1⟩
  · have : lfN (stp (opn e k)) k2 = lfN e k2 := by unfold lfN; rw [stp_fd, opn_fd (by decide) (by decide) (by decide)]
    rw [this]
    exact ⟨fun y => ⟨y, by omega⟩, fun y => y.1⟩
theorem made_T (hw : wf n e) (hj : j < 12) : MADE n e (stp (updT e j 2 1)) (16 + j) := by
  have hn := hw.n16
  have f : ∀ k2 i, fd (stp (updT e j 2 1)) k2 i = fd e k2 i := fun k2 i => by rw [stp_fd, fd_T hj (by decide)]
  refine ⟨⟨fun k2 i hk2 hi => f k2 i, fun t i ht hi => ?_⟩, fun k2 hk2 => ?_, fun t ht => ?_, fun k2 i hk2 hi => ?_⟩
  · rw [stp_ft, ft_T (by decide) (by omega), if_neg (by omega)]
  · unfold clo; rw [f]; exact ⟨fun y => ⟨y, by omega⟩, fun y => y.1⟩
  · rw [stp_ft, ft_T (by decide) (by decide)]
    by_cases z : t = j
    · rw [if_pos ⟨z, rfl⟩]; exact ⟨fun y => absurd y (by decide), fun y => absurd (by omega) y.2⟩
    · rw [if_neg (fun y => z y.1)]; exact ⟨fun y => ⟨y, by omega⟩, fun y => y.1⟩
  · have : lfN (stp (updT e j 2 1)) k2 = lfN e k2 := by unfold lfN; rw [f]
    rw [this]; exact ⟨fun y => ⟨y, by omega⟩, fun y => y.1⟩
theorem made_L (hw : wf n e) (hk : k < n) (hl : lfN e k < 3) : MADE n e (stp (updF e k 5 (fd e k 5 + 1))) (28 + 3 * k + lfN e k) := by
  have hn := hw.n16
  have f : ∀ k2 i, i < 8 → i ≠ 5 → fd (stp (updF e k 5 (fd e k 5 + 1))) k2 i = fd e k2 i := fun k2 i h1 h2 => by rw [stp_fd, fd_F_ne (by omega) (by decide) h1]
  have g' : ∀ t i, t < 12 → i < 3 → ft (stp (updF e k 5 (fd e k 5 + 1))) t i = ft e t i := fun t i h1 h2 => by rw [stp_ft, ft_F h1 h2]
  refine ⟨⟨fun k2 i hk2 hi => f k2 i (by omega) (by omega), fun t i ht hi => g' t i ht (by omega)⟩, fun k2 hk2 => ?_, fun t ht => ?_, fun k2 i hk2 hi => ?_⟩
  · unfold clo; rw [f k2 6 (by decide) (by decide)]; exact ⟨fun y => ⟨y, by omega⟩, fun y => y.1⟩
  · rw [g' t 2 ht (by decide)]; exact ⟨fun y => ⟨y, by omega⟩, fun y => y.1⟩
  · by_cases z : k2 = k
    · subst z
      have : lfN (stp (updF e k2 5 (fd e k2 5 + 1))) k2 = lfN e k2 + 1 := by
        unfold lfN
        rw [stp_fd, fd_F (by decide) (by decide), if_pos ⟨rfl, rfl⟩, (wf_lf hw hk2).1, nI_1, nI_clamp (by omega), nI_clamp (by omega)]
      rw [this]; omega
    · have : lfN (stp (updF e k 5 (fd e k 5 + 1))) k2 = lfN e k2 := by unfold lfN; rw [stp_fd, fd_F_ne (by omega) (by decide) (by decide)]
      rw [this]; exact ⟨fun y => ⟨y, by omega⟩, fun y => y.1⟩
end CT

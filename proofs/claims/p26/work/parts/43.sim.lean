/-! STEPS MADE WHEREVER THEY CAN BE MADE: what is so of a row g on the way from e, and that its end tells the possible steps -/
def SAME (e g : V) : Prop := (∀ k j, k < 16 → j < 5 → fd g k j = fd e k j) ∧ (∀ t j, t < 12 → j < 2 → ft g t j = ft e t j)
def INV (n : Nat) (e g : V) : Prop :=
  (g 0 = nI n ∧ g 1 = e 1) ∧ SAME e g ∧ zoOk g ∧ ((∀ k, k < 16 → fd e k 6 = 1 → fd g k 6 = 1) ∧ ∀ t, t < 12 → ft e t 2 = 1 → ft g t 2 = 1) ∧
  (∀ k, k < 16 → ∃ l, fd g k 5 = nI l ∧ lfN e k ≤ l ∧ l ≤ bmN e k) ∧
  ((∀ k, k < n → fd g k 6 = 1 → fd e k 6 = 1 ∨ CANS n e k) ∧ (∀ t, t < 12 → ft g t 2 = 1 → ft e t 2 = 1 ∨ CANS n e (16 + t)) ∧ ∀ k i, k < n → lfN e k ≤ i → i < lfN g k → CANS n e (28 + 3 * k + i)) ∧
  ∀ k, n ≤ k → k < 16 → fd g k 6 = 0
def MAX (n : Nat) (g : V) : Prop := (∀ k, k < n → canO g k = false ∧ canL g k = false) ∧ ∀ t, t < 12 → canT g t = false
theorem wf_bm {n k : Nat} {e : V} (h : wf n e) (hk : k < 16) : ∃ b, b ≤ 3 ∧ fd e k 4 = nI b ∧ bmN e k = b := by
  by_cases hkn : k < n
  · obtain ⟨b, l, h1, h2, h3, h4⟩ := h.lift' hkn
    exact ⟨b, h1, h3, by unfold bmN; rw [h3, nI_clamp (by omega)]⟩
  · have h3 := (h.zr k (by omega) hk).1
    exact ⟨0, by omega, h3, by unfold bmN; rw [h3]; decide⟩
theorem wf_lf {n k : Nat} {e : V} (h : wf n e) (hk : k < 16) : fd e k 5 = nI (lfN e k) ∧ lfN e k ≤ bmN e k := by
  obtain ⟨b, hb, h1, h2⟩ := wf_bm h hk
  by_cases hkn : k < n
  · obtain ⟨l, h3, h4⟩ := h.lb hkn h1
    have : lfN e k = l := by unfold lfN; rw [h4, nI_clamp (by omega)]
    rw [this, h2]; exact ⟨h4, h3⟩
  · have h4 := (h.zr k (by omega) hk).2.1
    have : lfN e k = 0 := by unfold lfN; rw [h4]; decide
    rw [this]; exact ⟨h4, Nat.zero_le _⟩
section IV
variable {n k t : Nat} {e g : V}
theorem INV.out (h : INV n e g) (hw : wf n e) : outOk n g := fun k hk => by
  rw [h.2.1.1 k 0 (by have := hw.n16; omega) (by decide)]; exact hw.out k hk
theorem INV.by' (h : INV n e g) (hw : wf n e) : byOk n g := fun k hk => by
  rw [h.2.1.1 k 1 (by have := hw.n16; omega) (by decide), h.2.1.1 k 2 (by have := hw.n16; omega) (by decide)]; exact hw.by' k hk
theorem INV.th (h : INV n e g) (hw : wf n e) : thOk n g := fun t ht => by
  rw [h.2.1.2 t 0 ht (by decide)]; exact hw.th t ht
theorem INV.lf (h : INV n e g) (hw : wf n e) (hk : k < 16) : fd g k 5 = nI (lfN g k) ∧ lfN e k ≤ lfN g k ∧ lfN g k ≤ bmN e k := by
  obtain ⟨l, h1, h2, h3⟩ := h.2.2.2.2.1 k hk
  obtain ⟨b, hb, -, h5⟩ := wf_bm hw hk
  have : lfN g k = l := by unfold lfN; rw [h1, nI_clamp (by omega)]
  rw [this]; exact ⟨h1, h2, h3⟩
theorem INV.bm (h : INV n e g) (hk : k < 16) : bmN g k = bmN e k := by unfold bmN; rw [h.2.1.1 k 4 hk (by decide)]
theorem INV.up (h : INV n e g) (hw : wf n e) (hk : k < n) {y : Nat} : UP e k y ↔ UP g k y := UP_w (fun k hk => h.2.1.1 k 0 (by have := hw.n16; omega) (by decide)) hw.out hw.n16 hk
theorem INV_refl (hw : wf n e) : INV n e e :=
  ⟨⟨hw.a0, rfl⟩, ⟨fun _ _ _ _ => rfl, fun _ _ _ _ => rfl⟩, hw.zo, ⟨fun _ _ z => z, fun _ _ z => z⟩, fun k hk => ⟨lfN e k, (wf_lf hw hk).1, Nat.le_refl _, (wf_lf hw hk).2⟩, ⟨fun _ _ z => Or.inl z, fun _ _ z => Or.inl z, fun k i _ h1 h2 => absurd h2 (by omega)⟩, fun k h1 h2 => (hw.zr k h1 h2).2.2.1⟩
/-- all that reaching drawer k needs is possible -/
theorem INV.way (h : INV n e g) (hw : wf n e) (hk : k < n) (hr : rchd g k = true) (ho : fd g k 6 = 1) : ∀ t, way e k t → CANS n e t := fun t ⟨h1, h2⟩ => by
  rcases h1 with z | rfl
  · have hg := (rchd_up (h.out hw) hw.n16 hk).mp hr t ((h.up hw hk).mp z)
    rcases h.2.2.2.2.2.1.1 t (UP_lt hw.out hw.n16 hk z) hg with y | y
    · unfold clo at h2; rw [h2] at y; exact absurd y (by decide)
    · exact y
  · rcases h.2.2.2.2.2.1.1 t hk ho with y | y
    · unfold clo at h2; rw [h2] at y; exact absurd y (by decide)
    · exact y
theorem canO_t (h : canO g k = true) : fd g k 6 = 0 ∧ rchd g k = true ∧ lets g k = true := by
  unfold canO at h
  rw [Bool.and_eq_true, Bool.and_eq_true, beq_iff_eq] at h
  exact h
theorem canL_t (h : canL g k = true) : fd g k 6 = 1 ∧ rchd g k = true ∧ fd g k 5 < fd g k 4 ∧ ft g 10 2 = 1 := by
  unfold canL at h
  rw [Bool.and_eq_true, Bool.and_eq_true, Bool.and_eq_true, beq_iff_eq, beq_iff_eq, decide_eq_true_eq] at h
  exact h
theorem INV.cansO (h : INV n e g) (hw : wf n e) (hk : k < n) (hc : canO g k = true) : CANS n e k := by
  obtain ⟨h1, h2, h3⟩ := canO_t hc
  have hk16 : k < 16 := by have := hw.n16; omega
  have e1 := h.2.1.1 k 1 hk16 (by decide)
  have e2 := h.2.1.1 k 2 hk16 (by decide)
  unfold lets at h3
  rw [e1, e2] at h3
  refine cans_in (by omega) (fun hb => ?_) (fun t ht hn => ?_)
  · obtain ⟨-, -, b3, b4⟩ := hb
    rw [if_neg (by rw [b3]; decide), if_pos b3] at h3
    obtain ⟨j, hj, ej⟩ := (hw.by' k hk).2 b3
    have : byN e k = j := by unfold byN; rw [ej, nI_clamp (by omega)]
    have h4 := h.2.2.2.2.2.2 (byN e k) b4 (by omega)
    have h5 : fd g (byN e k) 6 = 1 := by unfold byN; simpa using h3
    rw [h4] at h5; exact absurd h5 (by decide)
  · rcases hn with hn | ⟨j, hj, -⟩ | ⟨k2, i, hj, -⟩
    · obtain ⟨-, -, hn⟩ := hn
      rcases hn with ⟨u1, u2⟩ | ⟨u1, u2, rfl⟩ | ⟨u1, u2, u3, rfl⟩
      · have hg := (rchd_up (h.out hw) hw.n16 hk).mp h2 t ((h.up hw hk).mp u1)
        rcases h.2.2.2.2.2.1.1 t (UP_lt hw.out hw.n16 hk u1) hg with y | y
        · unfold clo at u2; rw [u2] at y; exact absurd y (by decide)
        · exact y
      · rw [if_pos u1] at h3
        have h5 : ft g (byN e k) 2 = 1 := by unfold byN; simpa using h3
        obtain ⟨j, hj, ej⟩ := (hw.by' k hk).1 u1
        have hb : byN e k = j := by unfold byN; rw [ej, nI_clamp (by omega)]
        rcases h.2.2.2.2.2.1.2.1 (byN e k) (by omega) h5 with y | y
        · rw [u2] at y; exact absurd y (by decide)
        · exact y
      · rw [if_neg (by rw [u1]; decide), if_pos u1] at h3
        have h5 : fd g (byN e k) 6 = 1 := by unfold byN; simpa using h3
        rcases h.2.2.2.2.2.1.1 (byN e k) u2 h5 with y | y
        · unfold clo at u3; rw [u3] at y; exact absurd y (by decide)
        · exact y
    · omega
    · omega
theorem INV.cansL (h : INV n e g) (hw : wf n e) (hk : k < n) (hc : canL g k = true) : CANS n e (28 + 3 * k + lfN g k) := by
  obtain ⟨h1, h2, h3, h4⟩ := canL_t hc
  have hk16 : k < 16 := by have := hw.n16; omega
  obtain ⟨l1, l2, l3⟩ := h.lf hw hk16
  obtain ⟨b, hb, b1, b2⟩ := wf_bm hw hk16
  have hlt : lfN g k < b := by
    rw [l1, h.2.1.1 k 4 hk16 (by decide), b1] at h3
    exact (nI_ltI (by omega) (by omega)).mp h3
  have hn16 := hw.n16
  refine cans_in (by omega) (fun z => by have := z.1; omega) (fun t ht hn => ?_)
  rcases hn with hn | ⟨j, hj, hn⟩ | ⟨k2, i, hj, hn⟩
  · have := hn.1; omega
  · have := hn.1; omega
  · obtain ⟨g1, g2, g3, g4⟩ := hn
    obtain ⟨b', hb', -, b2'⟩ := wf_bm hw (k := k2) (by omega)
    have hkk : k2 = k ∧ i = lfN g k := by omega
    obtain ⟨rfl, rfl⟩ := hkk
    rcases g4 with z | ⟨z, rfl⟩ | ⟨i2, z1, z2, rfl⟩
    · exact h.way hw hk h2 h1 t z
    · rcases h.2.2.2.2.2.1.2.1 10 (by decide) h4 with y | y
      · rw [z] at y; exact absurd y (by decide)
      · exact y
    · exact h.2.2.2.2.2.1.2.2 k2 i2 hk z1 z2
theorem canT_t (hz : zoOk g) (ht : t < 12) (h : canT g t = true) : ft g t 2 = 0 ∧ (ft g t 0 ≠ -5 → fd g (plN g t) 6 = 1 ∧ rchd g (plN g t) = true ∧ ft g t 1 ≤ fd g (plN g t) 5) := by
  unfold canT at h
  by_cases c : ft g t 2 = 1
  · rw [if_pos c] at h; cases h
  · rw [if_neg c] at h
    refine ⟨(hz.2 t ht).resolve_right c, fun c2 => ?_⟩
    rw [if_neg c2, Bool.and_eq_true, Bool.and_eq_true, beq_iff_eq, decide_eq_true_eq] at h
    exact h
theorem wf_dp (hw : wf n e) (ht : t < 12) (hp : ft e t 0 ≠ -5) : plN e t < n ∧ ft e t 0 = nI (plN e t) ∧ ft e t 1 = nI (dpN e t) ∧ dpN e t ≤ bmN e (plN e t) ∧ dpN e t ≤ 3 := by
  obtain ⟨k, b, d, h1, h2, h3, h4, h5, h6⟩ := (hw.td t ht).resolve_left hp
  have e1 : plN e t = k := by unfold plN; rw [h2, nI_clamp (by have := hw.n16; omega)]
  have e2 : dpN e t = d := by unfold dpN; rw [h4, nI_clamp (by omega)]
  have e3 : bmN e k = b := by unfold bmN; rw [h3, nI_clamp (by omega)]
  rw [e1, e2, e3]
  exact ⟨h1, h2, h4, h5, by omega⟩
theorem INV.cansT (h : INV n e g) (hw : wf n e) (ht : t < 12) (hc : canT g t = true) : CANS n e (16 + t) := by
  obtain ⟨h1, h2⟩ := canT_t h.2.2.1 ht hc
  refine cans_in (by omega) (fun z => by have := z.1; have := hw.n16; omega) (fun t2 ht2 hn => ?_)
  rcases hn with hn | ⟨j, hj, hn⟩ | ⟨k2, i, hj, hn⟩
  · have := hn.1; have := hw.n16; omega
  · obtain rfl : j = t := by omega
    obtain ⟨-, g2, g3, g4⟩ := hn
    obtain ⟨p1, p2, p3, p4, p5⟩ := wf_dp hw ht g2
    have e0 := h.2.1.2 j 0 ht (by decide)
    have e1 := h.2.1.2 j 1 ht (by decide)
    have epl : plN g j = plN e j := by unfold plN; rw [e0]
    obtain ⟨c1, c2, c3⟩ := h2 (by rw [e0]; exact g2)
    rw [epl] at c1 c2 c3
    rcases g4 with z | ⟨i, z1, z2, rfl⟩
    · exact h.way hw p1 c2 c1 t2 z
    · have hk16 : plN e j < 16 := by have := hw.n16; omega
      obtain ⟨l1, l2, l3⟩ := h.lf hw hk16
      rw [e1, p3, l1] at c3
      have := (nI_leI (by omega) (by obtain ⟨b, hb, -, b2⟩ := wf_bm hw hk16; omega)).mp c3
      exact h.2.2.2.2.2.1.2.2 _ i p1 z1 (by omega)
  · omega
end IV

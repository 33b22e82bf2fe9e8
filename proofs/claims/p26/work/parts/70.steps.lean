/-! WHAT A STEP THAT IS MADE CHANGES: the needed steps lose just that one -/
/-- a step of the game that is not made yet -/
def VS (n : Nat) (e : V) (s : Nat) : Prop := (s < n ∧ clo e s) ∨ (∃ j, j < 12 ∧ s = 16 + j ∧ ft e j 2 = 0) ∨ ∃ k i, k < n ∧ s = 28 + 3 * k + i ∧ lfN e k ≤ i ∧ i < bmN e k
section SP
variable {n : Nat} {e g : V} {s t d k y j i : Nat}
theorem bm3 (hw : wf n e) (hk : k < 16) : bmN e k ≤ 3 := by
  obtain ⟨b, hb, -, h2⟩ := wf_bm hw hk
  omega
theorem VS.lt (hw : wf n e) (h : VS n e s) : s < 76 := by
  have hn := hw.n16
  rcases h with ⟨h1, -⟩ | ⟨j, h1, rfl, -⟩ | ⟨k, i, h1, rfl, -, h3⟩
  · omega
  · omega
  · have := bm3 hw (show k < 16 by omega); omega
theorem by10 (hw : wf n e) (hk : k < n) (h1 : fd e k 1 = 1) : byN e k < 10 := by
  obtain ⟨j, hj, ej⟩ := (hw.by' k hk).1 h1
  have : byN e k = j := by unfold byN; rw [ej, nI_clamp (by omega)]
  omega
theorem by16 (hw : wf n e) (hk : k < n) (h1 : fd e k 1 = 2) : byN e k < 16 := by
  obtain ⟨j, hj, ej⟩ := (hw.by' k hk).2 h1
  have : byN e k = j := by unfold byN; rw [ej, nI_clamp (by omega)]
  omega
theorem way_vs (hw : wf n e) (hd : d < n) (h : way e d t) : VS n e t := Or.inl ⟨way_lt hw.out hw.n16 hd h, h.2⟩
theorem nd_vs (hw : wf n e) (h : ND n e s t) : VS n e t := by
  have hn := hw.n16
  rcases h with ⟨h1, h2, h3⟩ | ⟨j, rfl, h1, h2, h3, h4⟩ | ⟨k, i, rfl, h1, h2, h3, h4⟩
  · rcases h3 with ⟨h4, h5⟩ | ⟨h4, h5, rfl⟩ | ⟨h4, h5, h6, rfl⟩
    · exact Or.inl ⟨UP_lt hw.out hn h1 h4, h5⟩
    · have := by10 hw h1 h4
      exact Or.inr (Or.inl ⟨byN e s, by omega, rfl, h5⟩)
    · exact Or.inl ⟨h5, h6⟩
  · obtain ⟨p1, p2, p3, p4, p5⟩ := wf_dp hw h1 h2
    rcases h4 with z | ⟨i, z1, z2, rfl⟩
    · exact way_vs hw p1 z
    · exact Or.inr (Or.inr ⟨plN e j, i, p1, rfl, z1, by omega⟩)
  · rcases h4 with z | ⟨z, rfl⟩ | ⟨i2, z1, z2, rfl⟩
    · exact way_vs hw h1 z
    · exact Or.inr (Or.inl ⟨10, by decide, rfl, z⟩)
    · exact Or.inr (Or.inr ⟨k, i2, h1, rfl, z1, by omega⟩)
theorem clo_vs (hw : wf n e) (hd : d < n) (h : CLO n e d s) : VS n e s := h (VS n e) (fun t ht => way_vs hw hd ht) (fun s t _ _ _ hn => nd_vs hw hn)
/-- a step that needs nothing more can be made -/
theorem now_O (hw : wf n e) (hs : s < n) (hcl : clo e s) (hb : ¬ BAD n e s) (hno : ∀ t, t < 76 → ¬ ND n e s t) : canO e s = true := by
  have hn := hw.n16
  have hop : ∀ t, t < n → (clo e t → ND n e s t) → fd e t 6 = 1 := fun t ht hc => by
    rcases (hw.zo.1 t (by omega)).1 with z | z
    · exact absurd (hc z) (hno t (by omega))
    · exact z
  have hr : rchd e s = true := (rchd_up hw.out hn hs).mpr (fun y hy => hop y (UP_lt hw.out hn hs hy) (fun hc => Or.inl ⟨hs, hcl, Or.inl ⟨hy, hc⟩⟩))
  have hl : lets e s = true := by
    unfold lets
    by_cases c1 : fd e s 1 = 1
    · rw [if_pos c1]
      have hby := by10 hw hs c1
      have : ft e (byN e s) 2 = 1 := by
        rcases hw.zo.2 (byN e s) (by omega) with z | z
        · exact absurd (Or.inl ⟨hs, hcl, Or.inr (Or.inl ⟨c1, z, rfl⟩)⟩) (hno (16 + byN e s) (by omega))
        · exact z
      simpa [byN] using this
    · rw [if_neg c1]
      by_cases c2 : fd e s 1 = 2
      · rw [if_pos c2]
        have hby : byN e s < n := by
          rcases Nat.lt_or_ge (byN e s) n with z | z
          · exact z
          · exact absurd ⟨hs, hcl, c2, z⟩ hb
        have : fd e (byN e s) 6 = 1 := hop _ hby (fun hc => Or.inl ⟨hs, hcl, Or.inr (Or.inr ⟨c2, hby, hc, rfl⟩)⟩)
        simpa [byN] using this
      · rw [if_neg c2]
  have h6 : fd e s 6 = 0 := hcl
  unfold canO; rw [h6, hr, hl]; rfl
theorem way_no (hw : wf n e) (hk : k < n) (hno : ∀ t, t < n → ¬ way e k t) : fd e k 6 = 1 ∧ rchd e k = true := by
  have hn := hw.n16
  have hop : ∀ t, t < n → (clo e t → way e k t) → fd e t 6 = 1 := fun t ht hc => by
    rcases (hw.zo.1 t (by omega)).1 with z | z
    · exact absurd (hc z) (hno t ht)
    · exact z
  exact ⟨hop k hk (fun hc => ⟨Or.inr rfl, hc⟩), (rchd_up hw.out hn hk).mpr (fun y hy => hop y (UP_lt hw.out hn hk hy) (fun hc => ⟨Or.inl hy, hc⟩))⟩
theorem no_way (hw : wf n e) (hk : k < n) (h1 : fd e k 6 = 1) (h2 : rchd e k = true) : ¬ way e k t := fun z => by
  have hy : fd e t 6 = 1 := by
    rcases z.1 with z1 | rfl
    · exact (rchd_up hw.out hw.n16 hk).mp h2 t z1
    · exact h1
  have h0 : fd e t 6 = 0 := z.2
  rw [h0] at hy; exact absurd hy (by decide)
theorem now_T (hw : wf n e) (hj : j < 12) (h0 : ft e j 2 = 0) (hno : ∀ t, t < 76 → ¬ ND n e (16 + j) t) : canT e j = true := by
  have hn := hw.n16
  unfold canT
  rw [if_neg (by rw [h0]; decide)]
  by_cases c : ft e j 0 = -5
  · rw [if_pos c, h0]; rfl
  · rw [if_neg c]
    obtain ⟨p1, p2, p3, p4, p5⟩ := wf_dp hw hj c
    obtain ⟨ho, hr⟩ := way_no hw p1 (fun t ht z => hno t (by omega) (Or.inr (Or.inl ⟨j, rfl, hj, c, h0, Or.inl z⟩)))
    have hk16 : plN e j < 16 := by omega
    have hle : dpN e j ≤ lfN e (plN e j) := by
      rcases Nat.lt_or_ge (lfN e (plN e j)) (dpN e j) with z | z
      · exact absurd (Or.inr (Or.inl ⟨j, rfl, hj, c, h0, Or.inr ⟨lfN e (plN e j), Nat.le_refl _, z, rfl⟩⟩)) (hno (28 + 3 * plN e j + lfN e (plN e j)) (by omega))
      · exact z
    have ho' : fd e (ft e j 0).toNatClampNeg 6 = 1 := ho
    have hr' : rchd e (ft e j 0).toNatClampNeg = true := hr
    have hl' : ft e j 1 ≤ fd e (ft e j 0).toNatClampNeg 5 := by
      show ft e j 1 ≤ fd e (plN e j) 5
      rw [p3, (wf_lf hw hk16).1]
      have := lf3 hw hk16
      exact (nI_leI (by omega) (by omega)).mpr hle
    rw [ho', hr', decide_eq_true hl']; rfl
theorem now_L (hw : wf n e) (hk : k < n) (hi1 : lfN e k ≤ i) (hi2 : i < bmN e k) (hno : ∀ t, t < 76 → ¬ ND n e (28 + 3 * k + i) t) : i = lfN e k ∧ canL e k = true := by
  have hn := hw.n16
  have hk16 : k < 16 := by omega
  have hb := bm3 hw hk16
  have hnd : ∀ t, ndL n e k i t → t < 76 → False := fun t ht h => hno t h (Or.inr (Or.inr ⟨k, i, rfl, ht⟩))
  have hi : i = lfN e k := by
    rcases Nat.lt_or_ge (lfN e k) i with z | z
    · exact (hnd (28 + 3 * k + lfN e k) ⟨hk, hi1, hi2, Or.inr (Or.inr ⟨lfN e k, Nat.le_refl _, z, rfl⟩)⟩ (by omega)).elim
    · omega
  refine ⟨hi, ?_⟩
  obtain ⟨ho, hr⟩ := way_no hw hk (fun t ht z => hnd t ⟨hk, hi1, hi2, Or.inl z⟩ (by omega))
  have hkn : ft e 10 2 = 1 := by
    rcases hw.zo.2 10 (by decide) with z | z
    · exact (hnd 26 ⟨hk, hi1, hi2, Or.inr (Or.inl ⟨z, rfl⟩)⟩ (by decide)).elim
    · exact z
  have hlt : fd e k 5 < fd e k 4 := by
    obtain ⟨b, hb3, h4, h5⟩ := wf_bm hw hk16
    rw [(wf_lf hw hk16).1, h4]
    exact (nI_ltI (by omega) (by omega)).mpr (by omega)
  unfold canL; rw [ho, hr, hkn, decide_eq_true hlt]; rfl
/-- a step that can be made needs nothing more -/
theorem canO_no (hw : wf n e) (hk : k < n) (hc : canO e k = true) : ∀ t, ¬ ND n e k t := fun t hn => by
  obtain ⟨h1, h2, h3⟩ := canO_t hc
  have hn16 := hw.n16
  unfold lets at h3
  rcases hn with ⟨-, -, hn⟩ | ⟨j, hj, -⟩ | ⟨k2, i, hj, -⟩
  · rcases hn with ⟨u1, u2⟩ | ⟨u1, u2, rfl⟩ | ⟨u1, u2, u3, rfl⟩
    · have hg := (rchd_up hw.out hn16 hk).mp h2 t u1
      have u2 : fd e t 6 = 0 := u2
      rw [u2] at hg; exact absurd hg (by decide)
    · rw [if_pos u1] at h3
      have h5 : ft e (byN e k) 2 = 1 := by unfold byN; simpa using h3
      rw [u2] at h5; exact absurd h5 (by decide)
    · rw [if_neg (by rw [u1]; decide), if_pos u1] at h3
      have h5 : fd e (byN e k) 6 = 1 := by unfold byN; simpa using h3
      have u3 : fd e (byN e k) 6 = 0 := u3
      rw [u3] at h5; exact absurd h5 (by decide)
  · omega
  · omega
theorem canT_no (hw : wf n e) (hj : j < 12) (hc : canT e j = true) : ∀ t, ¬ ND n e (16 + j) t := fun t hn => by
  obtain ⟨h1, h2⟩ := canT_t hw.zo hj hc
  have hn16 := hw.n16
  rcases hn with hn | ⟨j2, hj2, hn⟩ | ⟨k2, i, hj2, hn⟩
  · have := hn.1; omega
  · obtain rfl : j2 = j := by omega
    obtain ⟨-, g2, g3, g4⟩ := hn
    obtain ⟨p1, p2, p3, p4, p5⟩ := wf_dp hw hj g2
    obtain ⟨c1, c2, c3⟩ := h2 g2
    rcases g4 with z | ⟨i, z1, z2, rfl⟩
    · exact no_way hw p1 c1 c2 z
    · have hk16 : plN e j2 < 16 := by omega
      have := lf3 hw hk16
      rw [p3, (wf_lf hw hk16).1] at c3
      have := (nI_leI (by omega) (by omega)).mp c3
      omega
  · omega
theorem canL_no (hw : wf n e) (hk : k < n) (hc : canL e k = true) : ∀ t, ¬ ND n e (28 + 3 * k + lfN e k) t := fun t hn => by
  obtain ⟨h1, h2, h3, h4⟩ := canL_t hc
  have hn16 := hw.n16
  have hl3 := lf3 hw (show k < 16 by omega)
  have hb3 := bm3 hw (show k < 16 by omega)
  have hlb : lfN e k < bmN e k := by
    obtain ⟨b, hb3, h5, h6⟩ := wf_bm hw (show k < 16 by omega)
    rw [(wf_lf hw (show k < 16 by omega)).1, h5] at h3
    have := (nI_ltI (by omega) (by omega)).mp h3
    omega
  rcases hn with hn | ⟨j2, hj2, hn⟩ | ⟨k2, i, hj2, hn⟩
  · have := hn.1; omega
  · have := hn.1; omega
  · obtain ⟨g1, g2, g3, g4⟩ := hn
    have hb4 := bm3 hw (show k2 < 16 by omega)
    have : k2 = k ∧ i = lfN e k := by omega
    obtain ⟨rfl, rfl⟩ := this
    rcases g4 with z | ⟨z, rfl⟩ | ⟨i2, z1, z2, rfl⟩
    · exact no_way hw hk h1 h2 z
    · rw [h4] at z; exact absurd z (by decide)
    · omega
/-- some needed step can be made, if all can come to be made -/
theorem some_now (hw : wf n e) (hd : d < n) (hp : ∀ t, way e d t → CANS n e t) (h : CLO n e d s) : ∃ s0, CLO n e d s0 ∧ ∀ t, t < 76 → ¬ ND n e s0 t := by
  have hs := clo_cans hp h
  refine hs (fun s => CLO n e d s → ∃ s0, CLO n e d s0 ∧ ∀ t, t < 76 → ¬ ND n e s0 t) (fun s hs hb hx hc => ?_) h
  refine Classical.byContradiction (fun hno => ?_)
  refine hno ⟨s, hc, fun t ht hn => hno ?_⟩
  exact hx t ht hn (clo_step hs ht hc hn)
/-- g is e with step s0 made -/
def MADE (n : Nat) (e g : V) (s0 : Nat) : Prop := SAME e g ∧ (∀ k, k < 16 → (clo g k ↔ clo e k ∧ k ≠ s0)) ∧ (∀ j, j < 12 → (ft g j 2 = 0 ↔ ft e j 2 = 0 ∧ 16 + j ≠ s0)) ∧ ∀ k i, k < 16 → i < 3 → (lfN g k ≤ i ↔ lfN e k ≤ i ∧ 28 + 3 * k + i ≠ s0)
variable {s0 : Nat}
theorem MADE.up (h : MADE n e g s0) (hw : wf n e) (hk : k < n) : UP e k y ↔ UP g k y := UP_w (fun k hk => h.1.1 k 0 (by have := hw.n16; omega) (by decide)) hw.out hw.n16 hk
theorem MADE.wy (h : MADE n e g s0) (hw : wf n e) (hk : k < n) : way g k t ↔ way e k t ∧ t ≠ s0 := by
  unfold way
  rw [← h.up hw hk]
  constructor
  · rintro ⟨h1, h2⟩
    have ht : t < 16 := by
      have := hw.n16
      rcases h1 with z | z
      · have := UP_lt hw.out hw.n16 hk z; omega
      · omega
    have := (h.2.1 t ht).mp h2
    exact ⟨⟨h1, this.1⟩, this.2⟩
  · rintro ⟨⟨h1, h2⟩, h3⟩
    have ht : t < 16 := by
      have := hw.n16
      rcases h1 with z | z
      · have := UP_lt hw.out hw.n16 hk z; omega
      · omega
    exact ⟨h1, (h.2.1 t ht).mpr ⟨h2, h3⟩⟩
theorem MADE.by' (h : MADE n e g s0) (hk : k < 16) : byN g k = byN e k := by unfold byN; rw [h.1.1 k 2 hk (by decide)]
theorem MADE.bm (h : MADE n e g s0) (hk : k < 16) : bmN g k = bmN e k := by unfold bmN; rw [h.1.1 k 4 hk (by decide)]
theorem MADE.pl (h : MADE n e g s0) (hj : j < 12) : plN g j = plN e j := by unfold plN; rw [h.1.2 j 0 hj (by decide)]
theorem MADE.dp (h : MADE n e g s0) (hj : j < 12) : dpN g j = dpN e j := by unfold dpN; rw [h.1.2 j 1 hj (by decide)]
theorem MADE.nO (h : MADE n e g s0) (hw : wf n e) : ndO n g k t ↔ ndO n e k t ∧ k ≠ s0 ∧ t ≠ s0 := by
  have hn := hw.n16
  constructor
  · rintro ⟨h1, h2, h3⟩
    have hk16 : k < 16 := by omega
    have hc := (h.2.1 k hk16).mp h2
    rw [h.1.1 k 1 hk16 (by decide), h.by' hk16, ← h.up hw h1] at h3
    rcases h3 with ⟨h4, h5⟩ | ⟨h4, h5, rfl⟩ | ⟨h4, h5, h6, rfl⟩
    · have := (h.2.1 t (by have := UP_lt hw.out hn h1 h4; omega)).mp h5
      exact ⟨⟨h1, hc.1, Or.inl ⟨h4, this.1⟩⟩, hc.2, this.2⟩
    · have := (h.2.2.1 (byN e k) (by have := by10 hw h1 h4; omega)).mp h5
      exact ⟨⟨h1, hc.1, Or.inr (Or.inl ⟨h4, this.1, rfl⟩)⟩, hc.2, this.2⟩
    · have := (h.2.1 (byN e k) (by omega)).mp h6
      exact ⟨⟨h1, hc.1, Or.inr (Or.inr ⟨h4, h5, this.1, rfl⟩)⟩, hc.2, this.2⟩
  · rintro ⟨⟨h1, h2, h3⟩, hs, ht⟩
    have hk16 : k < 16 := by omega
    refine ⟨h1, (h.2.1 k hk16).mpr ⟨h2, hs⟩, ?_⟩
    rw [h.1.1 k 1 hk16 (by decide), h.by' hk16, ← h.up hw h1]
    rcases h3 with ⟨h4, h5⟩ | ⟨h4, h5, rfl⟩ | ⟨h4, h5, h6, rfl⟩
    · exact Or.inl ⟨h4, (h.2.1 t (by have := UP_lt hw.out hn h1 h4; omega)).mpr ⟨h5, ht⟩⟩
    · exact Or.inr (Or.inl ⟨h4, (h.2.2.1 (byN e k) (by have := by10 hw h1 h4; omega)).mpr ⟨h5, ht⟩, rfl⟩)
    · exact Or.inr (Or.inr ⟨h4, h5, (h.2.1 (byN e k) (by omega)).mpr ⟨h6, ht⟩, rfl⟩)
theorem MADE.nT (h : MADE n e g s0) (hw : wf n e) : ndT g j t ↔ ndT e j t ∧ 16 + j ≠ s0 ∧ t ≠ s0 := by
  have hn := hw.n16
  constructor
  · rintro ⟨h1, h2, h3, h4⟩
    rw [h.1.2 j 0 h1 (by decide)] at h2
    obtain ⟨p1, p2, p3, p4, p5⟩ := wf_dp hw h1 h2
    have hc := (h.2.2.1 j h1).mp h3
    rw [h.pl h1, h.dp h1, h.wy hw p1] at h4
    rcases h4 with z | ⟨i, z1, z2, rfl⟩
    · exact ⟨⟨h1, h2, hc.1, Or.inl z.1⟩, hc.2, z.2⟩
    · have := (h.2.2.2 (plN e j) i (by omega) (by omega)).mp z1
      exact ⟨⟨h1, h2, hc.1, Or.inr ⟨i, this.1, z2, rfl⟩⟩, hc.2, this.2⟩
  · rintro ⟨⟨h1, h2, h3, h4⟩, hs, ht⟩
    obtain ⟨p1, p2, p3, p4, p5⟩ := wf_dp hw h1 h2
    refine ⟨h1, by rw [h.1.2 j 0 h1 (by decide)]; exact h2, (h.2.2.1 j h1).mpr ⟨h3, hs⟩, ?_⟩
    rw [h.pl h1, h.dp h1, h.wy hw p1]
    rcases h4 with z | ⟨i, z1, z2, rfl⟩
    · exact Or.inl ⟨z, ht⟩
    · exact Or.inr ⟨i, (h.2.2.2 (plN e j) i (by omega) (by omega)).mpr ⟨z1, ht⟩, z2, rfl⟩
theorem MADE.nL (h : MADE n e g s0) (hw : wf n e) : ndL n g k i t ↔ ndL n e k i t ∧ 28 + 3 * k + i ≠ s0 ∧ t ≠ s0 := by
  have hn := hw.n16
  constructor
  · rintro ⟨h1, h2, h3, h4⟩
    have hk16 : k < 16 := by omega
    have hb := bm3 hw hk16
    rw [h.bm hk16] at h3
    have hc := (h.2.2.2 k i hk16 (by omega)).mp h2
    rw [h.wy hw h1] at h4
    rcases h4 with z | ⟨z, rfl⟩ | ⟨i2, z1, z2, rfl⟩
    · exact ⟨⟨h1, hc.1, h3, Or.inl z.1⟩, hc.2, z.2⟩
    · have := (h.2.2.1 10 (by decide)).mp z
      exact ⟨⟨h1, hc.1, h3, Or.inr (Or.inl ⟨this.1, rfl⟩)⟩, hc.2, this.2⟩
    · have := (h.2.2.2 k i2 hk16 (by omega)).mp z1
      exact ⟨⟨h1, hc.1, h3, Or.inr (Or.inr ⟨i2, this.1, z2, rfl⟩)⟩, hc.2, this.2⟩
  · rintro ⟨⟨h1, h2, h3, h4⟩, hs, ht⟩
    have hk16 : k < 16 := by omega
    have hb := bm3 hw hk16
    refine ⟨h1, (h.2.2.2 k i hk16 (by omega)).mpr ⟨h2, hs⟩, by rw [h.bm hk16]; exact h3, ?_⟩
    rw [h.wy hw h1]
    rcases h4 with z | ⟨z, rfl⟩ | ⟨i2, z1, z2, rfl⟩
    · exact Or.inl ⟨z, ht⟩
    · exact Or.inr (Or.inl ⟨(h.2.2.1 10 (by decide)).mpr ⟨z, ht⟩, rfl⟩)
    · exact Or.inr (Or.inr ⟨i2, (h.2.2.2 k i2 hk16 (by omega)).mpr ⟨z1, ht⟩, z2, rfl⟩)
theorem MADE.nd (h : MADE n e g s0) (hw : wf n e) : ND n g s t ↔ ND n e s t ∧ s ≠ s0 ∧ t ≠ s0 := by
  constructor
  · rintro (z | ⟨j, rfl, z⟩ | ⟨k, i, rfl, z⟩)
    · have := (h.nO hw).mp z; exact ⟨Or.inl this.1, this.2⟩
    · have := (h.nT hw).mp z; exact ⟨Or.inr (Or.inl ⟨j, rfl, this.1⟩), this.2⟩
    · have := (h.nL hw).mp z; exact ⟨Or.inr (Or.inr ⟨k, i, rfl, this.1⟩), this.2⟩
  · rintro ⟨z | ⟨j, rfl, z⟩ | ⟨k, i, rfl, z⟩, h1, h2⟩
    · exact Or.inl ((h.nO hw).mpr ⟨z, h1, h2⟩)
    · exact Or.inr (Or.inl ⟨j, rfl, (h.nT hw).mpr ⟨z, h1, h2⟩⟩)
    · exact Or.inr (Or.inr ⟨k, i, rfl, (h.nL hw).mpr ⟨z, h1, h2⟩⟩)
theorem MADE.bad (h : MADE n e g s0) (hw : wf n e) (hb : BAD n g s) : BAD n e s := by
  obtain ⟨h1, h2, h3, h4⟩ := hb
  have hk16 : s < 16 := by have := hw.n16; omega
  rw [h.1.1 s 1 hk16 (by decide)] at h3
  rw [h.by' hk16] at h4
  exact ⟨h1, ((h.2.1 s hk16).mp h2).1, h3, h4⟩
theorem MADE.cn (h : MADE n e g s0) (hw : wf n e) (hs : CANS n e s) : CANS n g s := hs (CANS n g) (fun s hs hb hx => cans_in hs (fun z => hb (h.bad hw z)) (fun t ht hn => hx t ht ((h.nd hw).mp hn).1))
theorem MADE.pos (h : MADE n e g s0) (hw : wf n e) (hd : d < n) (hp : ∀ t, way e d t → CANS n e t) : ∀ t, way g d t → CANS n g t := fun t ht => h.cn hw (hp t ((h.wy hw hd).mp ht).1)
/-- the needed steps lose just that one -/
theorem MADE.cl (h : MADE n e g s0) (hw : wf n e) (hd : d < n) (hno : ∀ t, t < 76 → ¬ ND n e s0 t) : CLO n g d s ↔ CLO n e d s ∧ s ≠ s0 := by
  constructor
  · intro z
    refine z (fun s => CLO n e d s ∧ s ≠ s0) (fun t ht => ?_) (fun s t hs ht h1 hn => ?_)
    · have := (h.wy hw hd).mp ht; exact ⟨clo_seed this.1, this.2⟩
    · have := (h.nd hw).mp hn
      exact ⟨clo_step hs ht h1.1 this.1, this.2.2⟩
  · rintro ⟨z, hne⟩
    refine z (fun s => s ≠ s0 → CLO n g d s) (fun t ht hne => ?_) (fun s t hs ht h1 hn hne => ?_) hne
    · exact clo_seed ((h.wy hw hd).mpr ⟨ht, hne⟩)
    · have hss : s ≠ s0 := fun z => hno t ht (z ▸ hn)
      exact clo_step hs ht (h1 hss) ((h.nd hw).mpr ⟨hn, hss, hne⟩)
end SP

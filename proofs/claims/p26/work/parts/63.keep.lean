/-! what is always so, kept by each call -/
def rq (c : Nat) (r : RQ) : Prop := (∃ n, wf n r.1) ∧ r.2 ≤ 13 * c
def wfA (c : Nat) (A : Ab) : Prop := rq c A.1 ∧ A.2.1.1 ≤ 4 ∧ (∀ i, i < A.2.1.1 → rq c (A.2.1.2 i)) ∧ (∀ r, A.2.2.1 = some r → rq c r) ∧ True
theorem rq.up {c : Nat} {r : RQ} (h : rq c r) : rq (c + 1) r := ⟨h.1, by have := h.2; omega⟩
theorem wfA.up {c : Nat} {A : Ab} (h : wfA c A) : wfA (c + 1) A := ⟨h.1.up, h.2.1, fun i hi => (h.2.2.1 i hi).up, fun r hr => (h.2.2.2.1 r hr).up, h.2.2.2.2⟩
theorem wfA.new {c : Nat} {A : Ab} {r : RQ} (h : wfA c A) (hr : rq (c + 1) r) : wfA (c + 1) (r, (recA A).2) := by
  obtain ⟨h1, h2, h3, h4, h5⟩ := h
  have hp : (recH A.2.1.1 A.2.1.2 A.1).1 ≤ 4 := by unfold recH; split <;> (dsimp only; omega)
  have hh : ∀ i, i < (recH A.2.1.1 A.2.1.2 A.1).1 → rq (c + 1) ((recH A.2.1.1 A.2.1.2 A.1).2 i) := by
    unfold recH
    split
    · intro i hi
      have hi : i < A.2.1.1 + 1 := hi
      show rq (c + 1) (if i = A.2.1.1 then A.1 else A.2.1.2 i)
      split
      · exact h1.up
      · exact (h3 i (by omega)).up
    · intro i hi
      have hi : i < 4 := hi
      show rq (c + 1) (if i = 3 then A.1 else A.2.1.2 (i + 1))
      split
      · exact h1.up
      · exact (h3 (i + 1) (by omega)).up
  exact ⟨hr, hp, hh, fun r hr => (h4 r hr).up, h5⟩
theorem wfA.act {c n w : Nat} {A : Ab} {a : V} (h : wfA c A) (hw : wf n a) (hw13 : w ≤ 13) : wfA (c + 1) (act A a w) := h.new ⟨⟨n, wf_step hw _⟩, by have := h.1.2; show A.1.2 + w ≤ 13 * (c + 1); omega⟩
theorem wfA.row {c n : Nat} {A : Ab} {a : V} (h : wfA c A) (hw : wf n a) : wfA (c + 1) ((a, A.1.2), (recA A).2) := h.new ⟨⟨n, hw⟩, by have := h.1.2; show A.1.2 ≤ 13 * (c + 1); omega⟩
section KP
variable {c n : Nat} {A : Ab} {v w u x : Int32}
theorem isD_ex (hw : wf n A.1.1) (h : isD A.1.1 v) : ∃ k, k < n ∧ v = nI k := by
  obtain ⟨j, hj, rfl⟩ := nI_of (Int32.not_lt.mpr h.1)
  have z2 : nI j < A.1.1 0 := h.2
  rw [hw.a0] at z2
  exact ⟨j, (nI_ltI hj (by have := hw.n16; omega)).mp z2, rfl⟩
theorem st_le (hw : wf n A.1.1) {k : Nat} (hk : k < n) : 4 + (fd A.1.1 k 3).toNatClampNeg ≤ 13 := by
  obtain ⟨s, hs, es⟩ := (hw.dr k hk).1
  rw [es, nI_clamp (by omega)]; omega
theorem K_open (h : wfA c A) : wfA (c + 1) (opOpen A v).2 := by
  obtain ⟨n, hw⟩ := h.1.1
  have hn := hw.n16
  unfold opOpen
  by_cases c1 : isD A.1.1 v
  · rw [if_pos c1]
    obtain ⟨k, hk, rfl⟩ := isD_ex hw c1
    rw [kcl (by omega)]
    by_cases c2 : A.1.1 1 = 1
    · rw [if_pos c2]
      by_cases c3 : fd A.1.1 k 6 = 1
      · rw [if_pos c3]; exact h.up
      · rw [if_neg c3]
        by_cases c4 : canO A.1.1 k = true
        · rw [if_pos c4]; exact h.act (wf_opn hw hk c2) (st_le hw hk)
        · rw [if_neg c4]; exact h.up
    · rw [if_neg c2]; exact h.up
  · rw [if_neg c1]; exact h.up
theorem K_close (h : wfA c A) : wfA (c + 1) (opClose A v).2 := by
  obtain ⟨n, hw⟩ := h.1.1
  have hn := hw.n16
  unfold opClose
  by_cases c1 : isD A.1.1 v
  · rw [if_pos c1]
    obtain ⟨k, hk, rfl⟩ := isD_ex hw c1
    rw [kcl (by omega)]
    by_cases c2 : A.1.1 1 = 1
    · rw [if_pos c2]
      by_cases c3 : fd A.1.1 k 6 = 1
      · rw [if_pos c3]
        by_cases c4 : rchd A.1.1 k = true
        · rw [if_pos c4]
          exact h.act (wf_upF hw 6 0 hk c2 (by decide) (by decide) (fun e => absurd e (by decide)) (fun _ => Or.inl rfl) (fun e => absurd e (by decide))) (st_le hw hk)
        · rw [if_neg c4]; exact h.up
      · rw [if_neg c3]; exact h.up
    · rw [if_neg c2]; exact h.up
  · rw [if_neg c1]; exact h.up
theorem K_lift (h : wfA c A) : wfA (c + 1) (opLift A v).2 := by
  obtain ⟨n, hw⟩ := h.1.1
  have hn := hw.n16
  unfold opLift
  by_cases c1 : isD A.1.1 v
  · rw [if_pos c1]
    obtain ⟨k, hk, rfl⟩ := isD_ex hw c1
    rw [kcl (by omega)]
    by_cases c2 : A.1.1 1 = 1
    · rw [if_pos c2]
      by_cases c3 : fd A.1.1 k 5 < fd A.1.1 k 4
      · rw [if_pos c3]
        by_cases c4 : canL A.1.1 k = true
        · rw [if_pos c4]; exact h.act (lift_x hw hk c2 c3) (by decide)
        · rw [if_neg c4]; exact h.up
      · rw [if_neg c3]; exact h.up
    · rw [if_neg c2]; exact h.up
  · rw [if_neg c1]; exact h.up
theorem K_take (h : wfA c A) : wfA (c + 1) (opTake A v).2 := by
  obtain ⟨n, hw⟩ := h.1.1
  unfold opTake
  by_cases c1 : isT v
  · rw [if_pos c1]
    obtain ⟨k, hk, rfl⟩ := isT_ex c1
    rw [nI_clamp (by omega)]
    by_cases c2 : A.1.1 1 = 1
    · rw [if_pos c2]
      by_cases c3 : ft A.1.1 k 2 = 1
      · rw [if_pos c3]; exact h.up
      · rw [if_neg c3]
        by_cases c4 : canT A.1.1 k = true
        · rw [if_pos c4]; exact h.act (wf_hand hw hk c2) (by decide)
        · rw [if_neg c4]; exact h.up
    · rw [if_neg c2]; exact h.up
  · rw [if_neg c1]; exact h.up
theorem K_seal (h : wfA c A) : wfA (c + 1) (opSeal A v).2 := by
  obtain ⟨n, hw⟩ := h.1.1
  have hn := hw.n16
  unfold opSeal
  by_cases c1 : isD A.1.1 v
  · rw [if_pos c1]
    obtain ⟨k, hk, rfl⟩ := isD_ex hw c1
    rw [kcl (by omega)]
    by_cases c2 : A.1.1 1 = 1
    · rw [if_pos c2]
      by_cases c3 : fd A.1.1 k 7 = 1
      · rw [if_pos c3]
        by_cases c4 : canS A.1.1 k = true
        · rw [if_pos c4]
          exact h.act (wf_upF hw 7 0 hk c2 (by decide) (by decide) (fun e => absurd e (by decide)) (fun e => absurd e (by decide)) (fun _ => Or.inl rfl)) (by decide)
        · rw [if_neg c4]; exact h.up
      · rw [if_neg c3]; exact h.up
    · rw [if_neg c2]; exact h.up
  · rw [if_neg c1]; exact h.up
theorem K_begin (h : wfA c A) : wfA (c + 1) (opBegin A).2 := by
  obtain ⟨n, hw⟩ := h.1.1
  unfold opBegin
  split
  · exact h.up
  · split
    · exact h.up
    · split
      · exact h.up
      · exact h.new ⟨⟨n, wf_asl hw 1 (Or.inr rfl)⟩, Nat.zero_le _⟩
theorem K_giveUp (h : wfA c A) : wfA (c + 1) (opGiveUp A).2 := by
  obtain ⟨n, hw⟩ := h.1.1
  unfold opGiveUp
  split
  · exact h.new ⟨⟨n, wf_asl hw 0 (Or.inl rfl)⟩, Nat.zero_le _⟩
  · exact h.up
theorem cbF_wf {k b : Nat} {a : V} (hw : wf n a) (hk : k < n) (hb : b ≤ 3) (hg : a 1 = 0) : wf n (cbF a k (nI b)) := wf_cb hw hk hb hg
theorem K_setB (h : wfA c A) : wfA (c + 1) (opSetB A v w).2 := by
  obtain ⟨n, hw⟩ := h.1.1
  have hn := hw.n16
  unfold opSetB
  by_cases c1 : isD A.1.1 v
  · rw [if_pos c1]
    obtain ⟨k, hk, rfl⟩ := isD_ex hw c1
    rw [kcl (by omega)]
    by_cases c2 : 0 ≤ w ∧ w ≤ 3
    · rw [if_pos c2]
      by_cases c3 : A.1.1 1 = 1
      · rw [if_pos c3]; exact h.up
      · rw [if_neg c3]
        by_cases c4 : fd A.1.1 k 4 = w
        · rw [if_pos c4]; exact h.up
        · rw [if_neg c4]
          obtain ⟨b, hb, rfl⟩ := rng (m := 3) c2 (by decide)
          have hwf := cbF_wf hw hk hb (hw.a1.resolve_right c3)
          exact h.row hwf
    · rw [if_neg c2]; exact h.up
  · rw [if_neg c1]; exact h.up
theorem K_build (h : wfA c A) : wfA (c + 1) (opBuild A v w u x).2 := by
  obtain ⟨n, hw⟩ := h.1.1
  have hn := hw.n16
  unfold opBuild
  by_cases c1 : v = -5 ∨ isD A.1.1 v
  · rw [if_pos c1]
    by_cases c2 : okHold w u ∧ 0 ≤ x ∧ x ≤ 9
    · rw [if_pos c2, hw.nOf]
      by_cases c3 : n < 16
      · rw [if_pos c3]
        by_cases c4 : A.1.1 1 = 1
        · rw [if_pos c4]; exact h.up
        · rw [if_neg c4]
          obtain ⟨s, hs, rfl⟩ := rng (m := 9) c2.2 (by decide)
          refine h.row (wf_nwD (s := s) (bt := 0) hw c3 (c1.imp id (fun z => isD_ex hw z)) (fun z => ?_) (fun z => ?_) (by omega) rfl (by decide))
          · rcases c2.1 with y | y | y | y
            · rw [z] at y; exact absurd y (by decide)
            · rw [z] at y; exact absurd y (by decide)
            · obtain ⟨j, hj, e⟩ := rng (m := 9) y.2 (by decide)
              exact ⟨j, by omega, e⟩
            · rw [z] at y; exact absurd y.1 (by decide)
          · rcases c2.1 with y | y | y | y
            · rw [z] at y; exact absurd y (by decide)
            · rw [z] at y; exact absurd y (by decide)
            · rw [z] at y; exact absurd y.1 (by decide)
            · obtain ⟨j, hj, e⟩ := rng (m := 15) y.2 (by decide)
              exact ⟨j, by omega, e⟩
      · rw [if_neg c3]; exact h.up
    · rw [if_neg c2]; exact h.up
  · rw [if_neg c1]; exact h.up
theorem K_lay (h : wfA c A) : wfA (c + 1) (opLay A v w u).2 := by
  obtain ⟨n, hw⟩ := h.1.1
  have hn := hw.n16
  unfold opLay
  by_cases c1 : isT v ∧ (w = -5 ∨ isD A.1.1 w)
  · rw [if_pos c1]
    obtain ⟨k, hk, rfl⟩ := isT_ex c1.1
    rw [nI_clamp (by omega)]
    by_cases c2 : 0 ≤ u ∧ u ≤ btm A.1.1 w
    · rw [if_pos c2]
      by_cases c3 : A.1.1 1 = 1
      · rw [if_pos c3]; exact h.up
      · rw [if_neg c3]
        by_cases c4 : ft A.1.1 k 0 = w ∧ ft A.1.1 k 1 = u
        · rw [if_pos c4]; exact h.up
        · rw [if_neg c4]
          refine h.row (wf_lay hw hk ?_)
          by_cases e : w = -5
          · exact Or.inl e
          · obtain ⟨j, hj, rfl⟩ := isD_ex hw (c1.2.resolve_left e)
            obtain ⟨b, hb, b1', -⟩ := wf_bm hw (show j < 16 by omega)
            have hu : 0 ≤ u ∧ u ≤ nI b := by
              rw [show btm A.1.1 (nI j) = fd A.1.1 (nI j).toNatClampNeg 4 from if_neg e, kcl (by omega), b1'] at c2; exact c2
            obtain ⟨m, hm, rfl⟩ := rng hu (by omega)
            exact Or.inr ⟨j, b, m, hj, rfl, b1', rfl, hm, hb⟩
    · rw [if_neg c2]; exact h.up
  · rw [if_neg c1]; exact h.up
theorem K_undo (h : wfA c A) : wfA (c + 1) (opUndo A).2 := by
  unfold opUndo
  split
  · exact h.up
  · rename_i e
    have h2 := h.2.1
    exact ⟨(h.2.2.1 _ (by omega)).up, (by show A.2.1.1 - 1 ≤ 4; omega), fun i hi => (h.2.2.1 i (by have : i < A.2.1.1 - 1 := hi; omega)).up, fun r hr => (h.2.2.2.1 r hr).up, h.2.2.2.2⟩
theorem wfA_0 : wfA 0 A0 := ⟨⟨⟨0, wf_z0⟩, Nat.zero_le _⟩, Nat.zero_le _, fun i hi => absurd hi (Nat.not_lt_zero i), fun r hr => (by cases hr), trivial⟩
end KP

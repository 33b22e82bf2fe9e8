/-! what the calls tell of a row, for numbers that fit -/
section FV
variable {n : Nat} {a : V} {A : Ab} {k t j i d : Nat}
theorem lt8 : ∀ j, j < 8 → nI j < (8 : Int32) ∧ (0 ≤ nI j ∧ nI j ≤ (10 : Int32)) ∧ (nI j).toNatClampNeg = j := by decide
theorem drw (hw : wf n a) (hk : k < n) (hj : j < 8) : opDrawer a (nI k) (nI j) = fd a k j := by
  have hn := hw.n16
  obtain ⟨h1, h2, h3⟩ := lt8 j hj
  unfold opDrawer dTell
  rw [if_pos (isD_of hw.a0 hn hk), if_pos h2, if_pos h1, kcl (by omega), h3]
theorem drw0 (hw : wf n a) (hk : k < n) : opDrawer a (nI k) 0 = fd a k 0 := drw hw hk (j := 0) (by decide)
theorem drw1 (hw : wf n a) (hk : k < n) : opDrawer a (nI k) 1 = fd a k 1 := drw hw hk (j := 1) (by decide)
theorem drw2 (hw : wf n a) (hk : k < n) : opDrawer a (nI k) 2 = fd a k 2 := drw hw hk (j := 2) (by decide)
theorem drw3 (hw : wf n a) (hk : k < n) : opDrawer a (nI k) 3 = fd a k 3 := drw hw hk (j := 3) (by decide)
theorem drw4 (hw : wf n a) (hk : k < n) : opDrawer a (nI k) 4 = fd a k 4 := drw hw hk (j := 4) (by decide)
theorem drw5 (hw : wf n a) (hk : k < n) : opDrawer a (nI k) 5 = fd a k 5 := drw hw hk (j := 5) (by decide)
theorem drw6 (hw : wf n a) (hk : k < n) : opDrawer a (nI k) 6 = fd a k 6 := drw hw hk (j := 6) (by decide)
theorem drw7 (hw : wf n a) (hk : k < n) : opDrawer a (nI k) 7 = fd a k 7 := drw hw hk (j := 7) (by decide)
theorem drw8 (hw : wf n a) (hk : k < n) : opDrawer a (nI k) 8 = b2i (rchd a k) := by
  have hn := hw.n16
  unfold opDrawer dTell
  rw [if_pos (isD_of hw.a0 hn hk), if_pos (by decide), if_neg (by decide), if_pos rfl, kcl (by omega)]
theorem drw9 (hw : wf n a) (hk : k < n) : opDrawer a (nI k) 9 = fsum (fun t => if ft a t 0 = nI k ∧ ft a t 2 = 0 then 1 else 0) 12 := by
  have hn := hw.n16
  unfold opDrawer dTell
  rw [if_pos (isD_of hw.a0 hn hk), if_pos (by decide), if_neg (by decide), if_neg (by decide), if_pos rfl, kcl (by omega)]
theorem drw10 (hw : wf n a) (hk : k < n) : opDrawer a (nI k) 10 = nI (outs a 16 (fd a k 0)) := by
  have hn := hw.n16
  unfold opDrawer dTell
  rw [if_pos (isD_of hw.a0 hn hk), if_pos (by decide), if_neg (by decide), if_neg (by decide), if_neg (by decide), kcl (by omega)]
theorem thg0 (ht : t < 12) : opThing a (nI t) 0 = if ft a t 2 = 1 then -5 else ft a t 0 := by
  unfold opThing tTell
  rw [if_pos (isT_of ht), if_pos (by decide), if_pos (by decide), nI_clamp (by omega), if_pos rfl, z_clamp]
theorem thg1 (ht : t < 12) : opThing a (nI t) 1 = if ft a t 2 = 1 then 0 else ft a t 1 := by
  unfold opThing tTell
  rw [if_pos (isT_of ht), if_pos (by decide), if_pos (by decide), nI_clamp (by omega), if_neg (by decide : ¬ (1 : Int32) = 0), o_clamp]
theorem thg2 (ht : t < 12) : opThing a (nI t) 2 = ft a t 2 := by
  unfold opThing tTell
  rw [if_pos (isT_of ht), if_pos (by decide), if_neg (by decide), if_pos rfl, nI_clamp (by omega)]
theorem thg3 (ht : t < 12) (hg : a 1 = 1) : opThing a (nI t) 3 = b2i (canT a t) := by
  unfold opThing tTell
  rw [if_pos (isT_of ht), if_pos (by decide), if_neg (by decide), if_neg (by decide), if_pos hg, nI_clamp (by omega)]
theorem cnt0 : opCount n A 0 = A.1.1 0 := by unfold opCount; rw [if_pos (by decide), if_pos rfl]
theorem cnt2 : opCount n A 2 = fsum (fun i => fd A.1.1 i 6) n := by unfold opCount; rw [if_pos (by decide), if_neg (by decide), if_neg (by decide), if_pos rfl]
theorem cnt3 : opCount n A 3 = bits (fun t => ft A.1.1 t 2 == 1) 12 := by unfold opCount; rw [if_pos (by decide), if_neg (by decide), if_neg (by decide), if_neg (by decide), if_pos rfl]
theorem cnt4 : opCount n A 4 = fsum (fun i => fd A.1.1 i 7) n := by unfold opCount; rw [if_pos (by decide), if_neg (by decide), if_neg (by decide), if_neg (by decide), if_neg (by decide), if_pos rfl]
theorem cnt5 : opCount n A 5 = A.1.1 2 := by unfold opCount; rw [if_pos (by decide), if_neg (by decide), if_neg (by decide), if_neg (by decide), if_neg (by decide), if_neg (by decide), if_pos rfl]
theorem cnt6 : opCount n A 6 = if stk n A.1.1 = 0 then 1 else 0 := by unfold opCount; rw [if_pos (by decide), if_neg (by decide), if_neg (by decide), if_neg (by decide), if_neg (by decide), if_neg (by decide), if_neg (by decide), if_pos rfl]
theorem cnt7 : opCount n A 7 = stk n A.1.1 := by unfold opCount; rw [if_pos (by decide), if_neg (by decide), if_neg (by decide), if_neg (by decide), if_neg (by decide), if_neg (by decide), if_neg (by decide), if_neg (by decide), if_pos rfl]
theorem cnt8 (hg : A.1.1 1 = 1) : opCount n A 8 = bits (canO A.1.1) n := by unfold opCount; rw [if_pos (by decide), if_neg (by decide), if_neg (by decide), if_neg (by decide), if_neg (by decide), if_neg (by decide), if_neg (by decide), if_neg (by decide), if_neg (by decide), if_pos rfl, if_pos hg]
theorem bs_bits (p : Nat → Bool) {m : Nat} (hm : m ≤ 32) : bset (bits p m) m p := bs_foru m hm
/-- what is needed of drawer k, where it can be had -/
theorem nd_no (hw : wf n a) (hk : k < n) (hp : posB n a k = false) : ∀ w : Int32, 0 ≤ w ∧ w ≤ 4 → opNeeds n a (nI k) w = -4 := fun w h => by
  have hn := hw.n16
  unfold opNeeds
  rw [if_pos (isD_of hw.a0 hn hk), if_pos h, kcl (by omega), if_neg (by rw [hp]; decide)]
theorem hn_no (hw : wf n a) (hg : a 1 = 1) (hk : k < n) (hp : posB n a k = false) : opHint n a (nI k) = -4 := by
  have hn := hw.n16
  unfold opHint
  rw [if_pos (isD_of hw.a0 hn hk), if_pos hg, kcl (by omega), if_neg (by rw [hp]; decide)]
theorem nd_yes (hw : wf n a) (hk : k < n) (hp : posB n a k = true) (w : Int32) (h : 0 ≤ w ∧ w ≤ 4) : opNeeds n a (nI k) w = rNeeds n a k w := by
  have hn := hw.n16
  unfold opNeeds
  rw [if_pos (isD_of hw.a0 hn hk), if_pos h, kcl (by omega), if_pos hp]
theorem nd_0 (hw : wf n a) (hk : k < n) (hp : posB n a k = true) : opNeeds n a (nI k) 0 = nI (tot n a k) := by
  rw [nd_yes hw hk hp 0 (by decide)]; unfold rNeeds; rw [if_pos rfl]; rfl
theorem nd_1 (hw : wf n a) (hk : k < n) (hp : posB n a k = true) : opNeeds n a (nI k) 1 = bits (cB n a k) 16 := by
  rw [nd_yes hw hk hp 1 (by decide)]; unfold rNeeds; rw [if_neg (by decide), if_pos rfl]
theorem nd_2 (hw : wf n a) (hk : k < n) (hp : posB n a k = true) : opNeeds n a (nI k) 2 = bits (fun t => cB n a k (16 + t)) 12 := by
  rw [nd_yes hw hk hp 2 (by decide)]; unfold rNeeds; rw [if_neg (by decide), if_neg (by decide), if_pos rfl]
theorem nd_3 (hw : wf n a) (hk : k < n) (hp : posB n a k = true) : opNeeds n a (nI k) 3 = nI (cL n a k) := by
  rw [nd_yes hw hk hp 3 (by decide)]; unfold rNeeds; rw [if_neg (by decide), if_neg (by decide), if_neg (by decide), if_pos rfl]
theorem nd_4 (hw : wf n a) (hk : k < n) (hp : posB n a k = true) : opNeeds n a (nI k) 4 = nI (cS n a k) := by
  rw [nd_yes hw hk hp 4 (by decide)]; unfold rNeeds; rw [if_neg (by decide), if_neg (by decide), if_neg (by decide), if_neg (by decide)]
theorem hn_yes (hw : wf n a) (hg : a 1 = 1) (hk : k < n) (hp : posB n a k = true) : opHint n a (nI k) = rHint n a k := by
  have hn := hw.n16
  unfold opHint
  rw [if_pos (isD_of hw.a0 hn hk), if_pos hg, kcl (by omega), if_pos hp]
/-! what the needed steps are like -/
theorem cb_o (hw : wf n a) (hd : d < n) (h : cB n a d i = true) (hi : i < 16) : i < n ∧ fd a i 6 = 0 := by
  rcases clo_vs hw hd (dB_t.mp h) with z | ⟨j, -, rfl, -⟩ | ⟨k, i, -, rfl, -⟩
  · exact z
  · omega
  · omega
theorem cb_t (hw : wf n a) (hd : d < n) (h : cB n a d (16 + t) = true) (ht : t < 12) : ft a t 2 = 0 := by
  have hn := hw.n16
  rcases clo_vs hw hd (dB_t.mp h) with z | ⟨j, -, hj, z⟩ | ⟨k, i, -, z, -⟩
  · omega
  · rw [show t = j by omega]; exact z
  · omega
theorem cb_outer (hw : wf n a) (hd : d < n) (h : cB n a d i = true) (hi : i < n) (hj : j < n) (ho : fd a i 0 = nI j) (hc : ¬ fd a j 6 = 1) : cB n a d j = true := by
  have hn := hw.n16
  have hcl := (cb_o hw hd h (by omega)).2
  have hj0 : fd a j 6 = 0 := (hw.zo.1 j (by omega)).1.resolve_right hc
  exact dB_t.mpr (clo_step (by omega) (by omega) (dB_t.mp h) (Or.inl ⟨hi, hcl, Or.inl ⟨(UP_un hw.out hn hj hi ho).mpr (Or.inl rfl), hj0⟩⟩))
theorem cb_key (hw : wf n a) (hd : d < n) (h : cB n a d i = true) (hi : i < n) (h1 : fd a i 1 = 1) (hc : ¬ ft a (byN a i) 2 = 1) : cB n a d (16 + byN a i) = true := by
  have hn := hw.n16
  have hcl := (cb_o hw hd h (by omega)).2
  have hb := by10 hw hi h1
  have hj0 : ft a (byN a i) 2 = 0 := (hw.zo.2 (byN a i) (by omega)).resolve_right hc
  exact dB_t.mpr (clo_step (by omega) (by omega) (dB_t.mp h) (Or.inl ⟨hi, hcl, Or.inr (Or.inl ⟨h1, hj0, rfl⟩)⟩))
theorem cb_by (hw : wf n a) (hd : d < n) (hp : posB n a d = true) (h : cB n a d i = true) (hi : i < n) (h1 : fd a i 1 = 2) : byN a i < n := by
  have hcl := (cb_o hw hd h (by have := hw.n16; omega)).2
  have hs := clo_cans (dB_t.mp hp) (dB_t.mp h)
  rcases Nat.lt_or_ge (byN a i) n with z | z
  · exact z
  · exact absurd ⟨hi, hcl, h1, z⟩ (cans_out hs).1
theorem cb_lever (hw : wf n a) (hd : d < n) (h : cB n a d i = true) (hi : i < n) (h1 : fd a i 1 = 2) (hb : byN a i < n) (hc : ¬ fd a (byN a i) 6 = 1) : cB n a d (byN a i) = true := by
  have hn := hw.n16
  have hcl := (cb_o hw hd h (by omega)).2
  have hj0 : fd a (byN a i) 6 = 0 := (hw.zo.1 (byN a i) (by omega)).1.resolve_right hc
  exact dB_t.mpr (clo_step (by omega) (by omega) (dB_t.mp h) (Or.inl ⟨hi, hcl, Or.inr (Or.inr ⟨h1, hb, hj0, rfl⟩)⟩))
/-- any lifting wants the knife -/
theorem cl_knife (hw : wf n a) (hd : d < n) (h : cL n a d ≠ 0) (hc : ¬ ft a 10 2 = 1) : cB n a d 26 = true := by
  have hn := hw.n16
  refine Classical.byContradiction (fun hno => h ?_)
  have z : ∀ (f : Nat → Nat) (m : Nat), (∀ i, f i = 0) → nsum f m = 0 := fun f m hf => by
    induction m with
    | zero => rfl
    | succ m ih => show nsum f m + f m = 0; rw [ih, hf]
  have h0 : ∀ k i, i01 (cB n a d (28 + 3 * k + i)) = 0 := fun k i => by
    cases hb : cB n a d (28 + 3 * k + i)
    · rfl
    · refine absurd ?_ hno
      have hcl := dB_t.mp hb
      have hlt := (clo_vs hw hd hcl).lt hw
      rcases clo_vs hw hd hcl with ⟨z, -⟩ | ⟨j, hj, e, -⟩ | ⟨k2, i2, q1, q2, q3, q4⟩
      · omega
      · omega
      · rw [q2] at hcl hlt
        exact dB_t.mpr (clo_step hlt (by decide) hcl (Or.inr (Or.inr ⟨k2, i2, rfl, q1, q3, q4, Or.inr (Or.inl ⟨(hw.zo.2 10 (by decide)).resolve_right hc, rfl⟩)⟩)))
  unfold cL
  exact z _ 16 (fun k => by
    unfold cL1
    have q0 := h0 k 0
    rw [Nat.add_zero] at q0
    rw [q0, h0 k 1, h0 k 2])
theorem cS_le (hw : wf n a) : cS n a d ≤ cO n a d := by
  have hn := hw.n16
  have h1 : cS n a d ≤ nsum (fun k => i01 (cB n a d k)) n := nsum_mono (fun k hk => i01_le (fun z => by unfold sl1 at z; rw [Bool.and_eq_true] at z; exact z.1))
  have h2 : ∀ m j, nsum (fun k => i01 (cB n a d k)) m ≤ nsum (fun k => i01 (cB n a d k)) (m + j) := fun m j => by
    induction j with
    | zero => exact Nat.le_refl _
    | succ j ih => exact Nat.le_trans ih (Nat.le_add_right _ _)
  have h3 := h2 n (16 - n)
  rw [show n + (16 - n) = 16 by omega] at h3
  exact Nat.le_trans h1 h3
/-- an open drawer needs nothing just where it is reached; a closed one needs itself -/
theorem open_0 (hw : wf n a) (hd : d < n) (ho : fd a d 6 = 1) : tot n a d = 0 ↔ rchd a d = true := by
  rw [tot_0 hw hd]
  constructor
  · intro h
    exact (way_no hw hd (fun t ht z => h t (clo_seed z))).2
  · intro h s hs
    exact hs (fun _ => False) (fun t ht => no_way hw hd ho h ht) (fun _ _ _ _ z _ => z)
theorem closed_1 (hw : wf n a) (ho : fd a d 6 = 0) : cB n a d d = true := dB_t.mpr (clo_seed ⟨Or.inr rfl, ho⟩)
end FV

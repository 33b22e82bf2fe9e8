/-! each step keeps what is so, and adds one; a row at which nothing can be made has all possible steps -/
def nsum (f : Nat → Nat) : Nat → Nat
  | 0 => 0
  | k + 1 => nsum f k + f k
theorem nsum_w {f g : Nat → Nat} {m : Nat} (h : ∀ i, i < m → f i = g i) : nsum f m = nsum g m := by
  induction m with
  | zero => rfl
  | succ m ih => unfold nsum; rw [ih (fun i hi => h i (by omega)), h m (by omega)]
theorem nsum_le {f : Nat → Nat} {c m : Nat} (h : ∀ i, i < m → f i ≤ c) : nsum f m ≤ m * c := by
  induction m with
  | zero => exact Nat.zero_le _
  | succ m ih =>
    have h1 := ih (fun i hi => h i (by omega))
    have h2 := h m (by omega)
    unfold nsum
    rw [Nat.succ_mul]; omega
theorem nsum_mono {f g : Nat → Nat} {m : Nat} (h : ∀ i, i < m → f i ≤ g i) : nsum f m ≤ nsum g m := by
  induction m with
  | zero => exact Nat.le_refl _
  | succ m ih =>
    have h1 := ih (fun i hi => h i (by omega))
    have h2 := h m (by omega)
    unfold nsum; omega
theorem nsum_up {f g : Nat → Nat} {i m : Nat} (hi : i < m) (h : ∀ j, j < m → j ≠ i → g j = f j) (h1 : g i = f i + 1) : nsum g m = nsum f m + 1 := by
  induction m with
  | zero => omega
  | succ m ih =>
    unfold nsum
    by_cases e : i = m
    · subst e
      rw [nsum_w (f := g) (g := f) (fun j hj => h j (by omega) (by omega)), h1]; omega
    · rw [ih (by omega) (fun j hj hn => h j (by omega) hn), h m (by omega) (fun z => e z.symm)]; omega
def m1 (g : V) (k : Nat) : Nat := (if fd g k 6 = 1 then 1 else 0) + lfN g k
def m2 (g : V) (t : Nat) : Nat := if ft g t 2 = 1 then 1 else 0
def msr (g : V) : Nat := nsum (m1 g) 16 + nsum (m2 g) 12
section OPN
variable {g : V} {k k2 j t : Nat}
theorem opn_fd (hj : j < 8) (h6 : j ≠ 6) (h7 : j ≠ 7) : fd (opn g k) k2 j = fd g k2 j := by
  unfold opn; split
  · rw [fd_F_ne (by omega) (by decide) hj, fd_F_ne (by omega) (by decide) hj]
  · rw [fd_F_ne (by omega) (by decide) hj]
theorem opn_6 : fd (opn g k) k2 6 = if k2 = k then 1 else fd g k2 6 := by
  unfold opn; split
  · rw [fd_F_ne (by omega) (by decide) (by decide), fd_F (by decide) (by decide)]
    by_cases e : k2 = k
    · rw [if_pos e, if_pos ⟨e, rfl⟩]
    · rw [if_neg e, if_neg (fun z => e z.1)]
  · rw [fd_F (by decide) (by decide)]
    by_cases e : k2 = k
    · rw [if_pos e, if_pos ⟨e, rfl⟩]
    · rw [if_neg e, if_neg (fun z => e z.1)]
theorem opn_7 (h : fd g k2 7 = 0 ∨ fd g k2 7 = 1) : fd (opn g k) k2 7 = 0 ∨ fd (opn g k) k2 7 = 1 := by
  unfold opn; split
  · rw [fd_F (by decide) (by decide)]
    split
    · exact Or.inr rfl
    · rw [fd_F_ne (by omega) (by decide) (by decide)]; exact h
  · rw [fd_F_ne (by omega) (by decide) (by decide)]; exact h
theorem opn_ft (ht : t < 12) (hj : j < 3) : ft (opn g k) t j = ft g t j := by
  unfold opn; split
  · rw [ft_F ht hj, ft_F ht hj]
  · rw [ft_F ht hj]
theorem opn_hd (hj : j < 40) : opn g k j = g j := by
  unfold opn; split
  · rw [hd_F hj, hd_F hj]
  · rw [hd_F hj]
end OPN
section SP
variable {n k t : Nat} {e g : V}
theorem INV_opn (h : INV n e g) (hw : wf n e) (hk : k < n) (hc : canO g k = true) : INV n e (opn g k) ∧ msr (opn g k) = msr g + 1 := by
  have hn := hw.n16
  have hC := h.cansO hw hk hc
  obtain ⟨⟨h0, h1⟩, ⟨h2, h3⟩, ⟨h4, h5⟩, ⟨h6, h7⟩, h8, ⟨h9, h10, h11⟩, h12⟩ := h
  refine ⟨⟨⟨(opn_hd (by decide)).trans h0, (opn_hd (by decide)).trans h1⟩, ⟨fun k2 j hk2 hj => ?_, fun t j ht hj => ?_⟩, ⟨fun k2 hk2 => ⟨?_, opn_7 (h4 k2 hk2).2⟩, fun t ht => ?_⟩, ⟨fun k2 hk2 he => ?_, fun t ht he => ?_⟩, fun k2 hk2 => ?_, ⟨fun k2 hk2 ho => ?_, fun t ht ho => ?_, fun k2 i hk2 g1 g2 => ?_⟩, fun k2 g1 g2 => ?_⟩, ?_⟩
  · rw [opn_fd (by omega) (by omega) (by omega)]; exact h2 k2 j hk2 hj
  · rw [opn_ft ht (by omega)]; exact h3 t j ht hj
  · rw [opn_6]; split
    · exact Or.inr rfl
    · exact (h4 k2 hk2).1
  · rw [opn_ft ht (by decide)]; exact h5 t ht
  · rw [opn_6]; split
    · rfl
    · exact h6 k2 hk2 he
  · rw [opn_ft ht (by decide)]; exact h7 t ht he
  · rw [opn_fd (by decide) (by decide) (by decide)]; exact h8 k2 hk2
  · rw [opn_6] at ho
    by_cases z : k2 = k
    · rw [z]; exact Or.inr hC
    · rw [if_neg z] at ho; exact h9 k2 hk2 ho
  · rw [opn_ft ht (by decide)] at ho; exact h10 t ht ho
  · have : lfN (opn g k) k2 = lfN g k2 := by unfold lfN; rw [opn_fd (by decide) (by decide) (by decide)]
    rw [this] at g2; exact h11 k2 i hk2 g1 g2
  · rw [opn_6, if_neg (by omega)]; exact h12 k2 g1 g2
  · have e1 : nsum (m1 (opn g k)) 16 = nsum (m1 g) 16 + 1 := by
      refine nsum_up (i := k) (by omega) (fun j hj hne => ?_) ?_
      · unfold m1 lfN; rw [opn_6, if_neg hne, opn_fd (by decide) (by decide) (by decide)]
      · unfold m1 lfN; rw [opn_6, if_pos rfl, opn_fd (by decide) (by decide) (by decide), if_pos rfl, (canO_t hc).1, if_neg (by decide)]; omega
    have e2 : nsum (m2 (opn g k)) 12 = nsum (m2 g) 12 := nsum_w (fun t ht => by unfold m2; rw [opn_ft ht (by decide)])
    unfold msr; rw [e1, e2]; omega
theorem INV_lft (h : INV n e g) (hw : wf n e) (hk : k < n) (hc : canL g k = true) : INV n e (updF g k 5 (fd g k 5 + 1)) ∧ msr (updF g k 5 (fd g k 5 + 1)) = msr g + 1 := by
  have hn := hw.n16
  have hC := h.cansL hw hk hc
  obtain ⟨l1, l2, l3⟩ := h.lf hw (show k < 16 by omega)
  obtain ⟨b, hb, b1', b2⟩ := wf_bm hw (show k < 16 by omega)
  have hlt : lfN g k < b := by
    have := (canL_t hc).2.2.1
    rw [l1, h.2.1.1 k 4 (by omega) (by decide), b1'] at this
    exact (nI_ltI (by omega) (by omega)).mp this
  have hx : fd g k 5 + 1 = nI (lfN g k + 1) := by rw [l1]; exact nI_1 _
  obtain ⟨⟨h0, h1⟩, ⟨h2, h3⟩, ⟨h4, h5⟩, ⟨h6, h7⟩, h8, ⟨h9, h10, h11⟩, h12⟩ := h
  have f : ∀ k2 j, j < 8 → ¬ (k2 = k ∧ j = 5) → fd (updF g k 5 (fd g k 5 + 1)) k2 j = fd g k2 j := fun k2 j hj hne => fd_F_ne hne (by decide) hj
  have f5 : fd (updF g k 5 (fd g k 5 + 1)) k 5 = nI (lfN g k + 1) := by rw [fd_F (by decide) (by decide), if_pos ⟨rfl, rfl⟩, hx]
  have lf5 : lfN (updF g k 5 (fd g k 5 + 1)) k = lfN g k + 1 := by
    have : lfN (updF g k 5 (fd g k 5 + 1)) k = (nI (lfN g k + 1)).toNatClampNeg := by rw [← f5]; rfl
    rw [this, nI_clamp (by omega)]
  have lfn : ∀ k2, k2 ≠ k → lfN (updF g k 5 (fd g k 5 + 1)) k2 = lfN g k2 := fun k2 hne => by unfold lfN; rw [f k2 5 (by decide) (fun z => hne z.1)]
  refine ⟨⟨⟨(hd_F (by decide)).trans h0, (hd_F (by decide)).trans h1⟩, ⟨fun k2 j hk2 hj => ?_, fun t j ht hj => ?_⟩, ⟨fun k2 hk2 => ?_, fun t ht => ?_⟩, ⟨fun k2 hk2 he => ?_, fun t ht he => ?_⟩, fun k2 hk2 => ?_, ⟨fun k2 hk2 ho => ?_, fun t ht ho => ?_, fun k2 i hk2 g1 g2 => ?_⟩, fun k2 g1 g2 => ?_⟩, ?_⟩
  · rw [f k2 j (by omega) (by omega)]; exact h2 k2 j hk2 hj
  · rw [ft_F ht (by omega)]; exact h3 t j ht hj
  · rw [f k2 6 (by decide) (by omega), f k2 7 (by decide) (by omega)]; exact h4 k2 hk2
  · rw [ft_F ht (by decide)]; exact h5 t ht
  · rw [f k2 6 (by decide) (by omega)]; exact h6 k2 hk2 he
  · rw [ft_F ht (by decide)]; exact h7 t ht he
  · by_cases z : k2 = k
    · rw [z]; exact ⟨_, f5, by omega, by omega⟩
    · rw [f k2 5 (by decide) (fun y => z y.1)]; exact h8 k2 hk2
  · rw [f k2 6 (by decide) (by omega)] at ho; exact h9 k2 hk2 ho
  · rw [ft_F ht (by decide)] at ho; exact h10 t ht ho
  · by_cases z : k2 = k
    · rw [z] at g1 g2 ⊢
      rw [lf5] at g2
      by_cases y : i = lfN g k
      · rw [y]; exact hC
      · exact h11 k i hk g1 (by omega)
    · rw [lfn k2 z] at g2; exact h11 k2 i hk2 g1 g2
  · rw [f k2 6 (by decide) (by omega)]; exact h12 k2 g1 g2
  · have e1 : nsum (m1 (updF g k 5 (fd g k 5 + 1))) 16 = nsum (m1 g) 16 + 1 := by
      refine nsum_up (i := k) (by omega) (fun j hj hne => ?_) ?_
      · unfold m1; rw [f j 6 (by decide) (by omega), lfn j hne]
      · unfold m1; rw [f k 6 (by decide) (by omega), lf5]; omega
    have e2 : nsum (m2 (updF g k 5 (fd g k 5 + 1))) 12 = nsum (m2 g) 12 := nsum_w (fun t ht => by unfold m2; rw [ft_F ht (by decide)])
    unfold msr; rw [e1, e2]; omega
theorem INV_tak (h : INV n e g) (hw : wf n e) (ht : t < 12) (hc : canT g t = true) : INV n e (updT g t 2 1) ∧ msr (updT g t 2 1) = msr g + 1 := by
  have hn := hw.n16
  have hC := h.cansT hw ht hc
  obtain ⟨⟨h0, h1⟩, ⟨h2, h3⟩, ⟨h4, h5⟩, ⟨h6, h7⟩, h8, ⟨h9, h10, h11⟩, h12⟩ := h
  have f : ∀ k j, j < 8 → fd (updT g t 2 1) k j = fd g k j := fun k j hj => fd_T ht (by decide)
  have g2' : ∀ t2, ft (updT g t 2 1) t2 2 = if t2 = t then 1 else ft g t2 2 := fun t2 => by
    rw [ft_T (by decide) (by decide)]; by_cases z : t2 = t
    · rw [if_pos z, if_pos ⟨z, rfl⟩]
    · rw [if_neg z, if_neg (fun y => z y.1)]
  refine ⟨⟨⟨(hd_T (by decide)).trans h0, (hd_T (by decide)).trans h1⟩, ⟨fun k2 j hk2 hj => ?_, fun t2 j ht2 hj => ?_⟩, ⟨fun k2 hk2 => ?_, fun t2 ht2 => ?_⟩, ⟨fun k2 hk2 he => ?_, fun t2 ht2 he => ?_⟩, fun k2 hk2 => ?_, ⟨fun k2 hk2 ho => ?_, fun t2 ht2 ho => ?_, fun k2 i hk2 g1 g2 => ?_⟩, fun k2 g1 g2 => ?_⟩, ?_⟩
  · rw [f k2 j (by omega)]; exact h2 k2 j hk2 hj
  · rw [ft_T (by decide) (by omega), if_neg (by omega)]; exact h3 t2 j ht2 hj
  · rw [f k2 6 (by decide), f k2 7 (by decide)]; exact h4 k2 hk2
  · rw [g2']; split
    · exact Or.inr rfl
    · exact h5 t2 ht2
  · rw [f k2 6 (by decide)]; exact h6 k2 hk2 he
  · rw [g2']; split
    · rfl
    · exact h7 t2 ht2 he
  · rw [f k2 5 (by decide)]; exact h8 k2 hk2
  · rw [f k2 6 (by decide)] at ho; exact h9 k2 hk2 ho
  · rw [g2'] at ho
    by_cases z : t2 = t
    · rw [z]; exact Or.inr hC
    · rw [if_neg z] at ho; exact h10 t2 ht2 ho
  · have : lfN (updT g t 2 1) k2 = lfN g k2 := by unfold lfN; rw [f k2 5 (by decide)]
    rw [this] at g2; exact h11 k2 i hk2 g1 g2
  · rw [f k2 6 (by decide)]; exact h12 k2 g1 g2
  · have e1 : nsum (m1 (updT g t 2 1)) 16 = nsum (m1 g) 16 := nsum_w (fun k hk => by unfold m1 lfN; rw [f k 6 (by decide), f k 5 (by decide)])
    have e2 : nsum (m2 (updT g t 2 1)) 12 = nsum (m2 g) 12 + 1 := by
      refine nsum_up (i := t) ht (fun j hj hne => ?_) ?_
      · unfold m2; rw [g2', if_neg hne]
      · unfold m2; rw [g2', if_pos rfl, if_pos rfl, (canT_t ⟨h4, h5⟩ ht hc).1, if_neg (by decide)]
    unfold msr; rw [e1, e2]; omega
theorem INV.m76 (h : INV n e g) (hw : wf n e) : msr g ≤ 76 := by
  have h1 : nsum (m1 g) 16 ≤ 16 * 4 := nsum_le (fun k hk => by
    obtain ⟨l1, l2, l3⟩ := h.lf hw hk
    obtain ⟨b, hb, b1', b2⟩ := wf_bm hw hk
    unfold m1; split <;> omega)
  have h2 : nsum (m2 g) 12 ≤ 12 * 1 := nsum_le (fun t ht => by unfold m2; split <;> omega)
  unfold msr; omega
/-- what a step s stands for, made -/
def DONE (n : Nat) (e g : V) (s : Nat) : Prop := (s < n → fd g s 6 = 1) ∧ (∀ j, s = 16 + j → j < 12 → ft g j 2 = 1) ∧ ∀ k i, s = 28 + 3 * k + i → k < n → i < bmN e k → i < lfN g k
theorem MAX_cans (h : INV n e g) (hw : wf n e) (hm : MAX n g) {s : Nat} (hs : CANS n e s) : DONE n e g s := by
  have hn := hw.n16
  refine hs (DONE n e g) (fun s hs hb hx => ⟨fun hsn => ?_, fun j hj hj2 => ?_, fun k i hki hk hi => ?_⟩)
  · have hk16 : s < 16 := by omega
    refine Classical.byContradiction (fun hno => ?_)
    have h6 : fd g s 6 = 0 := (h.2.2.1.1 s hk16).1.resolve_right hno
    have hcl : clo e s := (hw.zo.1 s hk16).1.resolve_right (fun z => hno (h.2.2.2.1.1 s hk16 z))
    have key : ∀ t, t < n → clo e t → ND n e s t → fd g t 6 = 1 := fun t ht hc hnd => (hx t (by omega) hnd).1 ht
    have hop : ∀ t, t < n → (clo e t → ND n e s t) → fd g t 6 = 1 := fun t ht hc => by
      rcases (hw.zo.1 t (by omega)).1 with z | z
      · exact key t ht z (hc z)
      · exact h.2.2.2.1.1 t (by omega) z
    have hr : rchd g s = true := (rchd_up (h.out hw) hn hsn).mpr (fun y hy => by
      have hy := (h.up hw hsn).mpr hy
      exact hop y (UP_lt hw.out hn hsn hy) (fun hc => Or.inl ⟨hsn, hcl, Or.inl ⟨hy, hc⟩⟩))
    have hl : lets g s = true := by
      unfold lets
      rw [h.2.1.1 s 1 hk16 (by decide), h.2.1.1 s 2 hk16 (by decide)]
      by_cases c1 : fd e s 1 = 1
      · rw [if_pos c1]
        obtain ⟨j, hj, ej⟩ := (hw.by' s hsn).1 c1
        have hby : byN e s = j := by unfold byN; rw [ej, nI_clamp (by omega)]
        have : ft g (byN e s) 2 = 1 := by
          rcases hw.zo.2 (byN e s) (by omega) with z | z
          · exact (hx (16 + byN e s) (by omega) (Or.inl ⟨hsn, hcl, Or.inr (Or.inl ⟨c1, z, rfl⟩)⟩)).2.1 (byN e s) rfl (by omega)
          · exact h.2.2.2.1.2 _ (by omega) z
        simpa [byN] using this
      · rw [if_neg c1]
        by_cases c2 : fd e s 1 = 2
        · rw [if_pos c2]
          have hby : byN e s < n := by
            rcases Nat.lt_or_ge (byN e s) n with z | z
            · exact z
            · exact absurd ⟨hsn, hcl, c2, z⟩ hb
          have : fd g (byN e s) 6 = 1 := hop _ hby (fun hc => Or.inl ⟨hsn, hcl, Or.inr (Or.inr ⟨c2, hby, hc, rfl⟩)⟩)
          simpa [byN] using this
        · rw [if_neg c2]
    have : canO g s = true := by unfold canO; rw [h6, hr, hl]; rfl
    rw [(hm.1 s hsn).1] at this; cases this
  · subst hj
    refine Classical.byContradiction (fun hno => ?_)
    have h2 : ft g j 2 = 0 := (h.2.2.1.2 j hj2).resolve_right hno
    have he2 : ft e j 2 = 0 := (hw.zo.2 j hj2).resolve_right (fun z => hno (h.2.2.2.1.2 j hj2 z))
    have e0 := h.2.1.2 j 0 hj2 (by decide)
    have e1 := h.2.1.2 j 1 hj2 (by decide)
    have : canT g j = true := by
      unfold canT
      rw [if_neg hno, e0, e1]
      by_cases c : ft e j 0 = -5
      · rw [if_pos c, h2]; rfl
      · rw [if_neg c]
        obtain ⟨p1, p2, p3, p4, p5⟩ := wf_dp hw hj2 c
        have hop : ∀ t, t < n → (clo e t → way e (plN e j) t) → fd g t 6 = 1 := fun t ht hc => by
          rcases (hw.zo.1 t (by omega)).1 with z | z
          · exact (hx t (by omega) (Or.inr (Or.inl ⟨j, rfl, hj2, c, he2, Or.inl (hc z)⟩))).1 ht
          · exact h.2.2.2.1.1 t (by omega) z
        have ho : fd g (plN e j) 6 = 1 := hop _ p1 (fun hc => ⟨Or.inr rfl, hc⟩)
        have hr : rchd g (plN e j) = true := (rchd_up (h.out hw) hn p1).mpr (fun y hy => by
          have hy := (h.up hw p1).mpr hy
          exact hop y (UP_lt hw.out hn p1 hy) (fun hc => ⟨Or.inl hy, hc⟩))
        obtain ⟨l1, l2, l3⟩ := h.lf hw (show plN e j < 16 by omega)
        have hle : dpN e j ≤ lfN g (plN e j) := by
          rcases Nat.lt_or_ge (lfN e (plN e j)) (dpN e j) with z | z
          · have := (hx (28 + 3 * plN e j + (dpN e j - 1)) (by omega) (Or.inr (Or.inl ⟨j, rfl, hj2, c, he2, Or.inr ⟨dpN e j - 1, by omega, by omega, rfl⟩⟩))).2.2 (plN e j) (dpN e j - 1) rfl p1 (by omega)
            omega
          · omega
        have ho' : fd g (ft e j 0).toNatClampNeg 6 = 1 := ho
        have hr' : rchd g (ft e j 0).toNatClampNeg = true := hr
        have hl' : ft e j 1 ≤ fd g (ft e j 0).toNatClampNeg 5 := by
          show ft e j 1 ≤ fd g (plN e j) 5
          rw [p3, l1]
          obtain ⟨b, hb, b1', b2⟩ := wf_bm hw (show plN e j < 16 by omega)
          exact (nI_leI (by omega) (by omega)).mpr hle
        rw [ho', hr', decide_eq_true hl']; rfl
    rw [hm.2 j hj2] at this; cases this
  · subst hki
    have hk16 : k < 16 := by omega
    obtain ⟨l1, l2, l3⟩ := h.lf hw hk16
    obtain ⟨b, hb, b1', b2⟩ := wf_bm hw hk16
    rcases Nat.lt_or_ge i (lfN e k) with z | z
    · omega
    · refine Classical.byContradiction (fun hno => ?_)
      have hnd : ∀ t, ndL n e k i t → ND n e (28 + 3 * k + i) t := fun t ht => Or.inr (Or.inr ⟨k, i, rfl, ht⟩)
      have hop : ∀ t, t < n → (clo e t → way e k t) → fd g t 6 = 1 := fun t ht hc => by
        rcases (hw.zo.1 t (by omega)).1 with y | y
        · exact (hx t (by omega) (hnd t ⟨hk, z, hi, Or.inl (hc y)⟩)).1 ht
        · exact h.2.2.2.1.1 t (by omega) y
      have ho : fd g k 6 = 1 := hop k hk (fun hc => ⟨Or.inr rfl, hc⟩)
      have hr : rchd g k = true := (rchd_up (h.out hw) hn hk).mpr (fun y hy => by
        have hy := (h.up hw hk).mpr hy
        exact hop y (UP_lt hw.out hn hk hy) (fun hc => ⟨Or.inl hy, hc⟩))
      have hkn : ft g 10 2 = 1 := by
        rcases hw.zo.2 10 (by decide) with y | y
        · exact (hx 26 (by decide) (hnd 26 ⟨hk, z, hi, Or.inr (Or.inl ⟨y, rfl⟩)⟩)).2.1 10 rfl (by decide)
        · exact h.2.2.2.1.2 10 (by decide) y
      have hlt : fd g k 5 < fd g k 4 := by
        rw [l1, h.2.1.1 k 4 hk16 (by decide), b1']
        exact (nI_ltI (by omega) (by omega)).mpr (by omega)
      have : canL g k = true := by unfold canL; rw [ho, hr, hkn, decide_eq_true hlt]; rfl
      rw [(hm.1 k hk).2] at this; cases this
/-- drawer d can be had open and reached -/
theorem MAX_pos (h : INV n e g) (hw : wf n e) (hm : MAX n g) (hk : k < n) : (fd g k 6 = 1 ∧ rchd g k = true) ↔ ∀ t, way e k t → CANS n e t := by
  have hn := hw.n16
  constructor
  · rintro ⟨h1, h2⟩ t ht
    exact h.way hw hk h2 h1 t ht
  · intro hx
    have hop : ∀ t, t < n → (clo e t → way e k t) → fd g t 6 = 1 := fun t ht hc => by
      rcases (hw.zo.1 t (by omega)).1 with y | y
      · exact (MAX_cans h hw hm (hx t (hc y))).1 ht
      · exact h.2.2.2.1.1 t (by omega) y
    exact ⟨hop k hk (fun hc => ⟨Or.inr rfl, hc⟩), (rchd_up (h.out hw) hn hk).mpr (fun y hy => by
      have hy := (h.up hw hk).mpr hy
      exact hop y (UP_lt hw.out hn hk hy) (fun hc => ⟨Or.inl hy, hc⟩))⟩
theorem MAX_opn (h : INV n e g) (hw : wf n e) (hm : MAX n g) (hk : k < n) (hc : clo e k) : fd g k 6 = 1 ↔ CANS n e k := by
  constructor
  · intro h1
    rcases h.2.2.2.2.2.1.1 k hk h1 with z | z
    · unfold clo at hc; rw [hc] at z; exact absurd z (by decide)
    · exact z
  · intro hs
    exact (MAX_cans h hw hm hs).1 hk
end SP

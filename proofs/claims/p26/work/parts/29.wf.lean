/-! what is always so of a row -/
def drOk (n : Nat) (a : V) : Prop := ∀ k, k < n → (∃ s, s < 10 ∧ fd a k 3 = nI s) ∧ (∃ b l, b ≤ 3 ∧ l ≤ b ∧ fd a k 4 = nI b ∧ fd a k 5 = nI l) ∧ (fd a k 7 = 1 → fd a k 1 = 3)
def tdOk (n : Nat) (a : V) : Prop := ∀ t, t < 12 → ft a t 0 = -5 ∨ ∃ k b e, k < n ∧ ft a t 0 = nI k ∧ fd a k 4 = nI b ∧ ft a t 1 = nI e ∧ e ≤ b ∧ b ≤ 3
def zrOk (n : Nat) (a : V) : Prop := ∀ k, n ≤ k → k < 16 → fd a k 4 = 0 ∧ fd a k 5 = 0 ∧ fd a k 6 = 0 ∧ fd a k 7 = 0
def ngOk (a : V) : Prop := a 1 = 0 → (∀ k, k < 16 → fd a k 5 = 0 ∧ fd a k 6 = 0 ∧ fd a k 7 = 0) ∧ ∀ t, t < 12 → ft a t 2 = 0
def hiOk (a : V) : Prop := ∀ j, 168 ≤ j → a j = 0
def wf (n : Nat) (a : V) : Prop := n ≤ 16 ∧ a 0 = nI n ∧ (a 1 = 0 ∨ a 1 = 1) ∧ outOk n a ∧ byOk n a ∧ zoOk a ∧ drOk n a ∧ tdOk n a ∧ zrOk n a ∧ ngOk a ∧ hiOk a
section WA
variable {n : Nat} {a : V}
theorem wf.n16 (h : wf n a) : n ≤ 16 := h.1
theorem wf.a0 (h : wf n a) : a 0 = nI n := h.2.1
theorem wf.a1 (h : wf n a) : a 1 = 0 ∨ a 1 = 1 := h.2.2.1
theorem wf.out (h : wf n a) : outOk n a := h.2.2.2.1
theorem wf.by' (h : wf n a) : byOk n a := h.2.2.2.2.1
theorem wf.zo (h : wf n a) : zoOk a := h.2.2.2.2.2.1
theorem wf.dr (h : wf n a) : drOk n a := h.2.2.2.2.2.2.1
theorem wf.td (h : wf n a) : tdOk n a := h.2.2.2.2.2.2.2.1
theorem wf.zr (h : wf n a) : zrOk n a := h.2.2.2.2.2.2.2.2.1
theorem wf.ng (h : wf n a) : ngOk a := h.2.2.2.2.2.2.2.2.2.1
theorem wf.hi (h : wf n a) : hiOk a := h.2.2.2.2.2.2.2.2.2.2
end WA
theorem wf.th {n : Nat} {a : V} (h : wf n a) : thOk n a := fun t ht => (h.td t ht).imp id (fun ⟨k, _, _, hk, e, _⟩ => ⟨k, hk, e⟩)
theorem wf_uniq {n m : Nat} {a : V} (h1 : wf n a) (h2 : wf m a) : n = m := nI_inj' (by have := h1.n16; omega) (by have := h2.n16; omega) (h1.a0.symm.trans h2.a0)
section WF
variable {n k t : Nat} {a a' : V}
/-- what a game changes -/
theorem wf_game (h : wf n a) (e0 : a' 0 = a 0) (e1 : a' 1 = 0 ∨ a' 1 = 1) (ed : ∀ k j, k < 16 → j < 5 → fd a' k j = fd a k j) (et : ∀ t j, t < 12 → j < 2 → ft a' t j = ft a t j)
    (hz : zoOk a') (hl : ∀ k b, k < n → fd a k 4 = nI b → ∃ l, l ≤ b ∧ fd a' k 5 = nI l) (hb : ∀ k, k < n → fd a' k 7 = 1 → fd a k 1 = 3) (hzr : ∀ k, n ≤ k → k < 16 → fd a' k 5 = 0 ∧ fd a' k 6 = 0 ∧ fd a' k 7 = 0) (hng : ngOk a') (hhi : hiOk a') : wf n a' := by
  refine ⟨h.n16, e0.trans h.a0, e1, fun k hk => ?_, fun k hk => ?_, hz, fun k hk => ?_, fun t ht => ?_, fun k h1 h2 => ?_, hng, hhi⟩
  · rw [ed k 0 (by have := h.n16; omega) (by decide)]; exact h.out k hk
  · rw [ed k 1 (by have := h.n16; omega) (by decide), ed k 2 (by have := h.n16; omega) (by decide)]; exact h.by' k hk
  · obtain ⟨g1, ⟨b, l, g2, g3, g4, g5⟩, g6⟩ := h.dr k hk
    have hk16 : k < 16 := by have := h.n16; omega
    rw [ed k 3 hk16 (by decide), ed k 4 hk16 (by decide), ed k 1 hk16 (by decide)]
    obtain ⟨l2, q1, q2⟩ := hl k b hk g4
    exact ⟨g1, ⟨b, l2, g2, q1, g4, q2⟩, hb k hk⟩
  · rw [et t 0 ht (by decide), et t 1 ht (by decide)]
    refine (h.td t ht).imp id (fun ⟨k, b, e, q1, q2, q3, q4, q5⟩ => ⟨k, b, e, q1, q2, ?_, q4, q5⟩)
    rw [ed k 4 (by have := h.n16; omega) (by decide)]; exact q3
  · rw [ed k 4 h2 (by decide)]
    exact ⟨(h.zr k h1 h2).1, hzr k h1 h2⟩
theorem hi_H (i : Nat) (x : Int32) (hi : i < 168) (h : hiOk a) : hiOk (updH a i x) := fun j hj => by unfold updH; rw [if_neg (by omega)]; exact h j hj
theorem hi_F (i : Nat) (x : Int32) (hk : k < 16) (hi : i < 8) (h : hiOk a) : hiOk (updF a k i x) := fun j hj => by unfold updF; rw [if_neg (by omega)]; exact h j hj
theorem hi_T (i : Nat) (x : Int32) (hk : t < 12) (hi : i < 3) (h : hiOk a) : hiOk (updT a t i x) := fun j hj => by unfold updT; rw [if_neg (by omega)]; exact h j hj
theorem hi_asl (h : hiOk a) : hiOk (asl a) := by
  have h1 : ∀ m, m ≤ 12 → hiOk (asT (updH a 2 0) m) := fun m => by
    induction m with
    | zero => exact fun _ => hi_H 2 0 (by decide) h
    | succ m ih => exact fun hm => hi_T 2 0 (by omega) (by decide) (ih (by omega))
  have h2 : ∀ m, m ≤ 16 → hiOk (asD (asT (updH a 2 0) 12) m) := fun m => by
    induction m with
    | zero => exact fun _ => h1 12 (by decide)
    | succ m ih => exact fun hm => hi_F 7 0 (by omega) (by decide) (hi_F 6 0 (by omega) (by decide) (hi_F 5 0 (by omega) (by decide) (ih (by omega))))
  exact h2 16 (by decide)
theorem b_le {b l : Nat} {x : Int32} (hb : b ≤ 3) (hl : l ≤ b) (e : x = nI b) {m : Nat} (hm : x = nI m) (h3 : m < 2 ^ 31) : l ≤ m := by
  rw [e] at hm; have := nI_inj' (by omega) h3 hm; omega
theorem wf.lift' (h : wf n a) (hk : k < n) : ∃ b l, b ≤ 3 ∧ l ≤ b ∧ fd a k 4 = nI b ∧ fd a k 5 = nI l := (h.dr k hk).2.1
theorem wf.lb (h : wf n a) (hk : k < n) {b : Nat} (e : fd a k 4 = nI b) : ∃ l, l ≤ b ∧ fd a k 5 = nI l := by
  obtain ⟨b2, l, h1, h2, h3, h4⟩ := h.lift' hk
  by_cases hb : b < 2 ^ 31
  · exact ⟨l, b_le h1 h2 h3 e hb, h4⟩
  · exact ⟨l, by omega, h4⟩
/-- the end of a game, and the beginning of one -/
theorem wf_asl (h : wf n a) (x : Int32) (hx : x = 0 ∨ x = 1) : wf n (updH (asl a) 1 x) := by
  have f : ∀ k j, k < 16 → j < 8 → fd (updH (asl a) 1 x) k j = if 5 ≤ j then 0 else fd a k j := fun k j hk hj => by rw [fd_H (by decide), asl_fd hk hj]
  have g : ∀ t j, t < 12 → j < 3 → ft (updH (asl a) 1 x) t j = if j = 2 then 0 else ft a t j := fun t j ht hj => by rw [ft_H (by decide), asl_ft ht hj]
  refine wf_game h ?_ ?_ (fun k j hk hj => ?_) (fun t j ht hj => ?_) ⟨fun k hk => ?_, fun t ht => ?_⟩ (fun k b hk hb => ⟨0, by omega, ?_⟩) (fun k hk hb => ?_) (fun k h1 h2 => ?_) (fun _ => ⟨fun k hk => ?_, fun t ht => ?_⟩) (hi_H 1 x (by decide) (hi_asl h.hi))
  · rw [hd_H, if_neg (by decide), asl_hd (by decide), if_neg (by decide)]
  · rw [hd_H, if_pos rfl]; exact hx
  · rw [f k j hk (by omega), if_neg (by omega)]
  · rw [g t j ht (by omega), if_neg (by omega)]
  · rw [f k 6 hk (by decide), f k 7 hk (by decide)]; exact ⟨Or.inl rfl, Or.inl rfl⟩
  · rw [g t 2 ht (by decide)]; exact Or.inl rfl
  · rw [f k 5 (by have := h.n16; omega) (by decide)]; rfl
  · rw [f k 7 (by have := h.n16; omega) (by decide), if_pos (by decide)] at hb; exact absurd hb (by decide)
  · rw [f k 5 h2 (by decide), f k 6 h2 (by decide), f k 7 h2 (by decide)]; exact ⟨rfl, rfl, rfl⟩
  · rw [f k 5 hk (by decide), f k 6 hk (by decide), f k 7 hk (by decide)]; exact ⟨rfl, rfl, rfl⟩
  · rw [g t 2 ht (by decide)]; rfl
/-- a step's count -/
theorem wf_step (h : wf n a) (x : Int32) : wf n (updH a 2 x) := by
  have f : ∀ k j, fd (updH a 2 x) k j = fd a k j := fun k j => fd_H (by decide)
  have g : ∀ t j, ft (updH a 2 x) t j = ft a t j := fun t j => ft_H (by decide)
  refine wf_game h rfl (by rw [hd_H, if_neg (by decide)]; exact h.a1) (fun k j _ _ => f k j) (fun t j _ _ => g t j) ⟨fun k hk => ?_, fun t ht => ?_⟩ (fun k b hk hb => ?_) (fun k hk hb => ?_) (fun k h1 h2 => ?_) (fun h0 => ⟨fun k hk => ?_, fun t ht => ?_⟩) (hi_H 2 x (by decide) h.hi)
  · rw [f, f]; exact h.zo.1 k hk
  · rw [g]; exact h.zo.2 t ht
  · rw [f]; exact h.lb hk hb
  · rw [f] at hb; exact (h.dr k hk).2.2 hb
  · rw [f, f, f]; exact (h.zr k h1 h2).2
  · rw [f, f, f]; exact (h.ng h0).1 k hk
  · rw [g]; exact (h.ng h0).2 t ht
/-- a field of a drawer that a game changes: 5, 6 or 7 -/
theorem wf_upF (h : wf n a) (j : Nat) (x : Int32) (hk : k < n) (hg : a 1 = 1) (hj : 5 ≤ j) (hj8 : j < 8) (hx5 : j = 5 → ∀ b, fd a k 4 = nI b → ∃ l, l ≤ b ∧ x = nI l) (hx6 : j = 6 → x = 0 ∨ x = 1) (hx7 : j = 7 → x = 0 ∨ x = 1 ∧ fd a k 1 = 3) : wf n (updF a k j x) := by
  have hk16 : k < 16 := by have := h.n16; omega
  have f : ∀ k2 j2, j2 < 8 → ¬ (k2 = k ∧ j2 = j) → fd (updF a k j x) k2 j2 = fd a k2 j2 := fun k2 j2 h2 hn => fd_F_ne hn hj8 h2
  have fs : fd (updF a k j x) k j = x := by rw [fd_F hj8 hj8, if_pos ⟨rfl, rfl⟩]
  have g : ∀ t j2, t < 12 → j2 < 3 → ft (updF a k j x) t j2 = ft a t j2 := fun t j2 h1 h2 => ft_F h1 h2
  refine wf_game h (hd_F (by decide)) (by rw [hd_F (by decide)]; exact h.a1) (fun k2 j2 _ h2 => f k2 j2 (by omega) (by omega)) (fun t j2 h1 h2 => g t j2 h1 (by omega)) ⟨fun k2 hk2 => ⟨?_, ?_⟩, fun t ht => ?_⟩ (fun k2 b hk2 hb => ?_) (fun k2 hk2 hb => ?_) (fun k2 h1 h2 => ?_) (fun h0 => ?_) (hi_F j x hk16 hj8 h.hi)
  · by_cases e : k2 = k ∧ 6 = j
    · obtain ⟨rfl, rfl⟩ := e; rw [fs]; exact hx6 rfl
    · rw [f k2 6 (by decide) e]; exact (h.zo.1 k2 hk2).1
  · by_cases e : k2 = k ∧ 7 = j
    · obtain ⟨rfl, rfl⟩ := e; rw [fs]; exact (hx7 rfl).imp id (fun z => z.1)
    · rw [f k2 7 (by decide) e]; exact (h.zo.1 k2 hk2).2
  · rw [g t 2 ht (by decide)]; exact h.zo.2 t ht
  · by_cases e : k2 = k ∧ 5 = j
    · obtain ⟨rfl, rfl⟩ := e; rw [fs]; exact hx5 rfl b hb
    · rw [f k2 5 (by decide) e]; exact h.lb hk2 hb
  · by_cases e : k2 = k ∧ 7 = j
    · obtain ⟨rfl, rfl⟩ := e; rw [fs] at hb
      rcases hx7 rfl with z | z
      · rw [z] at hb; exact absurd hb (by decide)
      · exact z.2
    · rw [f k2 7 (by decide) e] at hb; exact (h.dr k2 hk2).2.2 hb
  · rw [f k2 5 (by decide) (by omega), f k2 6 (by decide) (by omega), f k2 7 (by decide) (by omega)]; exact (h.zr k2 h1 h2).2
  · rw [hd_F (by decide), hg] at h0; exact absurd h0 (by decide)
/-- a thing in hand -/
theorem wf_hand (h : wf n a) (ht : t < 12) (hg : a 1 = 1) : wf n (updT a t 2 1) := by
  have f : ∀ k j, j < 8 → fd (updT a t 2 1) k j = fd a k j := fun k j _ => fd_T ht (by decide)
  have g : ∀ t2 j2, j2 < 3 → ft (updT a t 2 1) t2 j2 = if t2 = t ∧ j2 = 2 then 1 else ft a t2 j2 := fun t2 j2 h2 => ft_T (by decide) h2
  refine wf_game h (hd_T (by decide)) (by rw [hd_T (by decide)]; exact h.a1) (fun k j _ h2 => f k j (by omega)) (fun t2 j2 h1 h2 => by rw [g t2 j2 (by omega), if_neg (by omega)]) ⟨fun k2 hk2 => ?_, fun t2 ht2 => ?_⟩ (fun k2 b hk2 hb => ?_) (fun k2 hk2 hb => ?_) (fun k2 h1 h2 => ?_) (fun h0 => ?_) (hi_T 2 1 ht (by decide) h.hi)
  · rw [f k2 6 (by decide), f k2 7 (by decide)]; exact h.zo.1 k2 hk2
  · rw [g t2 2 (by decide)]; by_cases e : t2 = t ∧ 2 = 2
    · rw [if_pos e]; exact Or.inr rfl
    · rw [if_neg e]; exact h.zo.2 t2 ht2
  · rw [f k2 5 (by decide)]; exact h.lb hk2 hb
  · rw [f k2 7 (by decide)] at hb; exact (h.dr k2 hk2).2.2 hb
  · rw [f k2 5 (by decide), f k2 6 (by decide), f k2 7 (by decide)]; exact (h.zr k2 h1 h2).2
  · rw [hd_T (by decide), hg] at h0; exact absurd h0 (by decide)
theorem wf_opn (h : wf n a) (hk : k < n) (hg : a 1 = 1) : wf n (opn a k) := by
  have h1 := wf_upF h 6 1 hk hg (by decide) (by decide) (fun e => absurd e (by decide)) (fun _ => Or.inr rfl) (fun e => absurd e (by decide))
  unfold opn
  split
  · rename_i e
    exact wf_upF h1 7 1 hk (by rw [hd_F (by decide)]; exact hg) (by decide) (by decide) (fun e => absurd e (by decide)) (fun e => absurd e (by decide)) (fun _ => Or.inr ⟨rfl, by rw [fd_F_ne (by omega) (by decide) (by decide)]; exact e⟩)
  · exact h1
/-- a drawer more -/
def nwD (a : V) (n : Nat) (o hd b st bt : Int32) : V := updF (goB a n o hd b st) n 4 bt
theorem nwD_ne {o hd b st bt : Int32} {j : Nat} (hk : k ≠ n) (hj : j < 8) : fd (nwD a n o hd b st bt) k j = fd a k j := by
  unfold nwD goB
  rw [fd_F_ne (by omega) (by decide) hj, fd_H (by decide), fd_F_ne (by omega) (by decide) hj, fd_F_ne (by omega) (by decide) hj, fd_F_ne (by omega) (by decide) hj, fd_F_ne (by omega) (by decide) hj]
theorem nwD_hi {o hd b st bt : Int32} {j : Nat} (h5 : 5 ≤ j) (hj : j < 8) : fd (nwD a n o hd b st bt) k j = fd a k j := by
  unfold nwD goB
  rw [fd_F_ne (by omega) (by decide) hj, fd_H (by decide), fd_F_ne (by omega) (by decide) hj, fd_F_ne (by omega) (by decide) hj, fd_F_ne (by omega) (by decide) hj, fd_F_ne (by omega) (by decide) hj]
theorem nwD_0 {o hd b st bt : Int32} : fd (nwD a n o hd b st bt) n 0 = o := by
  unfold nwD goB
  rw [fd_F_ne (by omega) (by decide) (by decide), fd_H (by decide), fd_F_ne (by omega) (by decide) (by decide), fd_F_ne (by omega) (by decide) (by decide), fd_F_ne (by omega) (by decide) (by decide), fd_F (by decide) (by decide), if_pos ⟨rfl, rfl⟩]
theorem nwD_1 {o hd b st bt : Int32} : fd (nwD a n o hd b st bt) n 1 = hd := by
  unfold nwD goB
  rw [fd_F_ne (by omega) (by decide) (by decide), fd_H (by decide), fd_F_ne (by omega) (by decide) (by decide), fd_F_ne (by omega) (by decide) (by decide), fd_F (by decide) (by decide), if_pos ⟨rfl, rfl⟩]
theorem nwD_2 {o hd b st bt : Int32} : fd (nwD a n o hd b st bt) n 2 = if hd = 1 ∨ hd = 2 then b else -5 := by
  unfold nwD goB
  rw [fd_F_ne (by omega) (by decide) (by decide), fd_H (by decide), fd_F_ne (by omega) (by decide) (by decide), fd_F (by decide) (by decide), if_pos ⟨rfl, rfl⟩]
theorem nwD_3 {o hd b st bt : Int32} : fd (nwD a n o hd b st bt) n 3 = st := by
  unfold nwD goB
  rw [fd_F_ne (by omega) (by decide) (by decide), fd_H (by decide), fd_F (by decide) (by decide), if_pos ⟨rfl, rfl⟩]
theorem nwD_4 {o hd b st bt : Int32} : fd (nwD a n o hd b st bt) n 4 = bt := by
  unfold nwD
  rw [fd_F (by decide) (by decide), if_pos ⟨rfl, rfl⟩]
theorem nwD_ft {o hd b st bt : Int32} {j : Nat} (ht : t < 12) (hj : j < 3) : ft (nwD a n o hd b st bt) t j = ft a t j := by
  unfold nwD goB
  rw [ft_F ht hj, ft_H (by decide), ft_F ht hj, ft_F ht hj, ft_F ht hj, ft_F ht hj]
theorem nwD_hd {o hd b st bt : Int32} {j : Nat} (h0 : 0 < j) (hj : j < 4) : nwD a n o hd b st bt j = a j := by
  unfold nwD goB
  rw [hd_F (by omega), hd_H, if_neg (by omega), hd_F (by omega), hd_F (by omega), hd_F (by omega), hd_F (by omega)]
theorem nwD_n {o hd b st bt : Int32} : nwD a n o hd b st bt 0 = nI (n + 1) := by
  unfold nwD goB
  rw [hd_F (by omega), hd_H, if_pos rfl]
theorem nwD_goB {o hd b st : Int32} (h : wf n a) (hn : n < 16) : nwD a n o hd b st 0 = goB a n o hd b st := by
  unfold nwD
  refine updF_id ?_
  unfold goB
  rw [fd_H (by decide), fd_F_ne (by omega) (by decide) (by decide), fd_F_ne (by omega) (by decide) (by decide), fd_F_ne (by omega) (by decide) (by decide), fd_F_ne (by omega) (by decide) (by decide)]
  exact (h.zr n (Nat.le_refl _) hn).1
theorem wf_nwD {o hd b st : Int32} {s bt : Nat} (h : wf n a) (hn : n < 16) (ho : o = -5 ∨ ∃ j, j < n ∧ o = nI j) (h1 : hd = 1 → ∃ j, j < 10 ∧ b = nI j) (h2 : hd = 2 → ∃ j, j < 16 ∧ b = nI j) (hs : s < 10) (hst : st = nI s) (hbt : bt ≤ 3) : wf (n + 1) (nwD a n o hd b st (nI bt)) := by
  refine ⟨hn, nwD_n, by rw [nwD_hd (by decide) (by decide)]; exact h.a1, fun k hk => ?_, fun k hk => ?_, ⟨fun k hk => ?_, fun t ht => ?_⟩, fun k hk => ?_, fun t ht => ?_, fun k hk hk2 => ?_, fun h0 => ⟨fun k hk => ?_, fun t ht => ?_⟩, ?_⟩
  · by_cases e : k = n
    · rw [e, nwD_0]; exact ho
    · rw [nwD_ne e (by decide)]; exact h.out k (by omega)
  · by_cases e : k = n
    · rw [e, nwD_1, nwD_2]
      exact ⟨fun z => by rw [if_pos (Or.inl z)]; exact h1 z, fun z => by rw [if_pos (Or.inr z)]; exact h2 z⟩
    · rw [nwD_ne e (by decide), nwD_ne e (by decide)]; exact h.by' k (by omega)
  · rw [nwD_hi (by decide) (by decide), nwD_hi (by decide) (by decide)]; exact h.zo.1 k hk
  · rw [nwD_ft ht (by decide)]; exact h.zo.2 t ht
  · by_cases e : k = n
    · rw [e, nwD_3, nwD_4, nwD_hi (by decide) (by decide), nwD_hi (by decide) (by decide)]
      obtain ⟨-, z5, z6, z7⟩ := h.zr n (Nat.le_refl _) hn
      exact ⟨⟨s, hs, hst⟩, ⟨bt, 0, hbt, by omega, rfl, z5⟩, fun z => by rw [z7] at z; exact absurd z (by decide)⟩
    · rw [nwD_ne e (by decide), nwD_ne e (by decide), nwD_ne e (by decide), nwD_ne e (by decide), nwD_ne e (by decide)]; exact h.dr k (by omega)
  · rw [nwD_ft ht (by decide), nwD_ft ht (by decide)]
    refine (h.td t ht).imp id (fun ⟨k, b, e, q1, q2, q3, q4, q5⟩ => ⟨k, b, e, by omega, q2, ?_, q4, q5⟩)
    rw [nwD_ne (by omega) (by decide)]; exact q3
  · rw [nwD_ne (by omega) (by decide), nwD_ne (by omega) (by decide), nwD_ne (by omega) (by decide), nwD_ne (by omega) (by decide)]; exact h.zr k (by omega) hk2
  · rw [nwD_hd (by decide) (by decide)] at h0
    rw [nwD_hi (by decide) (by decide), nwD_hi (by decide) (by decide), nwD_hi (by decide) (by decide)]; exact (h.ng h0).1 k hk
  · rw [nwD_hd (by decide) (by decide)] at h0
    rw [nwD_ft ht (by decide)]; exact (h.ng h0).2 t ht
  · unfold nwD goB
    exact hi_F 4 _ hn (by decide) (hi_H 0 _ (by decide) (hi_F 3 _ hn (by decide) (hi_F 2 _ hn (by decide) (hi_F 1 _ hn (by decide) (hi_F 0 _ hn (by decide) h.hi)))))
/-- bottoms -/
theorem cb_fd {b : Int32} {k2 j : Nat} (m : Nat) (hm : m ≤ 12) (hj : j < 8) : fd (cb a k b m) k2 j = if k2 = k ∧ j = 4 then b else fd a k2 j := by
  induction m with
  | zero => exact fd_F (by decide) hj
  | succ m ih =>
    rw [cb]; split
    · rw [fd_T (by omega) (by decide)]; exact ih (by omega)
    · exact ih (by omega)
theorem cb_ft {b : Int32} {j : Nat} (m : Nat) (hm : m ≤ 12) (ht : t < 12) (hj : j < 3) : ft (cb a k b m) t j = if j = 1 ∧ t < m ∧ ft a t 0 = nI k ∧ b < ft a t 1 then b else ft a t j := by
  induction m generalizing t j with
  | zero => rw [if_neg (by omega)]; exact ft_F ht hj
  | succ m ih =>
    have e0 := ih (t := m) (j := 0) (by omega) (by omega) (by decide)
    have e1 := ih (t := m) (j := 1) (by omega) (by omega) (by decide)
    rw [if_neg (by omega)] at e0 e1
    rw [cb, e0, e1]
    split
    · rename_i hc
      rw [ft_T (by decide) hj, ih (by omega) ht hj]
      by_cases e : t = m ∧ j = 1
      · rw [if_pos e, if_pos ⟨e.2, by omega, by rw [e.1]; exact hc⟩]
      · rw [if_neg e]
        by_cases e2 : j = 1 ∧ t < m ∧ ft a t 0 = nI k ∧ b < ft a t 1
        · rw [if_pos e2, if_pos ⟨e2.1, by omega, e2.2.2⟩]
        · rw [if_neg e2, if_neg (fun z => e2 ⟨z.1, by omega, z.2.2⟩)]
    · rename_i hc
      rw [ih (by omega) ht hj]
      by_cases e2 : j = 1 ∧ t < m ∧ ft a t 0 = nI k ∧ b < ft a t 1
      · rw [if_pos e2, if_pos ⟨e2.1, by omega, e2.2.2⟩]
      · rw [if_neg e2, if_neg (fun z => e2 ⟨z.1, by
          have : t ≠ m := fun w => hc (by rw [← w]; exact z.2.2)
          omega, z.2.2⟩)]
theorem cb_hd {b : Int32} {j : Nat} (m : Nat) (hj : j < 4) : cb a k b m j = a j := by
  induction m with
  | zero => exact hd_F (by omega)
  | succ m ih =>
    rw [cb]; split
    · rw [hd_T hj]; exact ih
    · exact ih
theorem cb_hi {b : Int32} (hk : k < 16) (h : hiOk a) (m : Nat) (hm : m ≤ 12) : hiOk (cb a k b m) := by
  induction m with
  | zero => exact hi_F 4 b hk (by decide) h
  | succ m ih =>
    rw [cb]; split
    · exact hi_T 1 b (by omega) (by decide) (ih (by omega))
    · exact ih (by omega)
theorem wf_cb {b : Nat} (h : wf n a) (hk : k < n) (hb : b ≤ 3) (hg : a 1 = 0) : wf n (cb a k (nI b) 12) := by
  have hk16 : k < 16 := by have := h.n16; omega
  have f : ∀ k2 j, j < 8 → fd (cb a k (nI b) 12) k2 j = if k2 = k ∧ j = 4 then nI b else fd a k2 j := fun k2 j hj => cb_fd 12 (by decide) hj
  have fn : ∀ k2 j, j < 8 → j ≠ 4 → fd (cb a k (nI b) 12) k2 j = fd a k2 j := fun k2 j hj h4 => by rw [f k2 j hj, if_neg (by omega)]
  have g : ∀ t j, t < 12 → j < 3 → ft (cb a k (nI b) 12) t j = if j = 1 ∧ t < 12 ∧ ft a t 0 = nI k ∧ nI b < ft a t 1 then nI b else ft a t j := fun t j ht hj => cb_ft 12 (by decide) ht hj
  have gn : ∀ t j, t < 12 → j < 3 → j ≠ 1 → ft (cb a k (nI b) 12) t j = ft a t j := fun t j ht hj h1 => by rw [g t j ht hj, if_neg (by omega)]
  refine ⟨h.n16, (cb_hd 12 (by decide)).trans h.a0, by rw [cb_hd 12 (by decide)]; exact h.a1, fun k2 hk2 => ?_, fun k2 hk2 => ?_, ⟨fun k2 hk2 => ?_, fun t ht => ?_⟩, fun k2 hk2 => ?_, fun t ht => ?_, fun k2 h1 h2 => ?_, fun h0 => ⟨fun k2 hk2 => ?_, fun t ht => ?_⟩, cb_hi hk16 h.hi 12 (by decide)⟩
  · rw [fn k2 0 (by decide) (by decide)]; exact h.out k2 hk2
  · rw [fn k2 1 (by decide) (by decide), fn k2 2 (by decide) (by decide)]; exact h.by' k2 hk2
  · rw [fn k2 6 (by decide) (by decide), fn k2 7 (by decide) (by decide)]; exact h.zo.1 k2 hk2
  · rw [gn t 2 ht (by decide) (by decide)]; exact h.zo.2 t ht
  · obtain ⟨q1, ⟨b2, l, q2, q3, q4, q5⟩, q6⟩ := h.dr k2 hk2
    rw [fn k2 3 (by decide) (by decide), fn k2 5 (by decide) (by decide), fn k2 7 (by decide) (by decide), fn k2 1 (by decide) (by decide), f k2 4 (by decide)]
    refine ⟨q1, ?_, q6⟩
    by_cases e : k2 = k
    · rw [if_pos ⟨e, rfl⟩]
      exact ⟨b, 0, hb, by omega, rfl, ((h.ng hg).1 k2 (by have := h.n16; omega)).1⟩
    · rw [if_neg (fun z => e z.1)]; exact ⟨b2, l, q2, q3, q4, q5⟩
  · rw [gn t 0 ht (by decide) (by decide), g t 1 ht (by decide)]
    refine (h.td t ht).imp id (fun ⟨k2, b2, e, q1, q2, q3, q4, q5⟩ => ?_)
    obtain ⟨q5, hb3⟩ := q5
    by_cases ek : k2 = k
    · have e31 : e < 2 ^ 31 := by omega
      refine ⟨k2, b, if b < e then b else e, q1, q2, by rw [f k2 4 (by decide), if_pos ⟨ek, rfl⟩], ?_, by split <;> omega, hb⟩
      rw [q4, show ft a t 0 = nI k by rw [← ek]; exact q2]
      by_cases hc : b < e
      · rw [if_pos ⟨rfl, ht, rfl, (nI_ltI (by omega) e31).mpr hc⟩, if_pos hc]
      · rw [if_neg (fun z => hc ((nI_ltI (by omega) e31).mp z.2.2.2)), if_neg hc]
    · refine ⟨k2, b2, e, q1, q2, by rw [f k2 4 (by decide), if_neg (fun z => ek z.1)]; exact q3, ?_, q5, hb3⟩
      rw [if_neg (fun z => ek (nI_inj' (by have := h.n16; omega) (by omega) (q2.symm.trans z.2.2.1)))]; exact q4
  · rw [f k2 4 (by decide), if_neg (by omega), fn k2 5 (by decide) (by decide), fn k2 6 (by decide) (by decide), fn k2 7 (by decide) (by decide)]; exact h.zr k2 h1 h2
  · rw [fn k2 5 (by decide) (by decide), fn k2 6 (by decide) (by decide), fn k2 7 (by decide) (by decide)]; exact (h.ng hg).1 k2 hk2
  · rw [gn t 2 ht (by decide) (by decide)]; exact (h.ng hg).2 t ht
theorem wf_lay {v e : Int32} (h : wf n a) (ht : t < 12) (hv : v = -5 ∨ ∃ k b m, k < n ∧ v = nI k ∧ fd a k 4 = nI b ∧ e = nI m ∧ m ≤ b ∧ b ≤ 3) : wf n (updT (updT a t 0 v) t 1 e) := by
  have f : ∀ k j, fd (updT (updT a t 0 v) t 1 e) k j = fd a k j := fun k j => by rw [fd_T ht (by decide), fd_T ht (by decide)]
  have g0 : ∀ t2, ft (updT (updT a t 0 v) t 1 e) t2 0 = if t2 = t then v else ft a t2 0 := fun t2 => by
    rw [ft_T (by decide) (by decide), if_neg (by omega), ft_T (by decide) (by decide)]; by_cases z : t2 = t
    · rw [if_pos ⟨z, rfl⟩, if_pos z]
    · rw [if_neg (fun y => z y.1), if_neg z]
  have g1 : ∀ t2, ft (updT (updT a t 0 v) t 1 e) t2 1 = if t2 = t then e else ft a t2 1 := fun t2 => by
    rw [ft_T (by decide) (by decide)]; by_cases z : t2 = t
    · rw [if_pos ⟨z, rfl⟩, if_pos z]
    · rw [if_neg (fun y => z y.1), ft_T (by decide) (by decide), if_neg (fun y => z y.1), if_neg z]
  have g2 : ∀ t2, ft (updT (updT a t 0 v) t 1 e) t2 2 = ft a t2 2 := fun t2 => by
    rw [ft_T (by decide) (by decide), if_neg (by omega), ft_T (by decide) (by decide), if_neg (by omega)]
  have hh : ∀ j, j < 4 → updT (updT a t 0 v) t 1 e j = a j := fun j hj => by rw [hd_T hj, hd_T hj]
  refine ⟨h.n16, (hh 0 (by decide)).trans h.a0, by rw [hh 1 (by decide)]; exact h.a1, fun k hk => by rw [f]; exact h.out k hk, fun k hk => by rw [f, f]; exact h.by' k hk, ⟨fun k hk => by rw [f, f]; exact h.zo.1 k hk, fun t2 ht2 => by rw [g2]; exact h.zo.2 t2 ht2⟩, fun k hk => by rw [f, f, f, f, f]; exact h.dr k hk, fun t2 ht2 => ?_, fun k h1 h2 => by rw [f, f, f, f]; exact h.zr k h1 h2, fun h0 => ?_, hi_T 1 e ht (by decide) (hi_T 0 v ht (by decide) h.hi)⟩
  · rw [g0, g1]
    by_cases z : t2 = t
    · rw [if_pos z, if_pos z]
      refine hv.imp id (fun ⟨k, b, m, q1, q2, q3, q4⟩ => ⟨k, b, m, q1, q2, by rw [f]; exact q3, q4⟩)
    · rw [if_neg z, if_neg z]
      refine (h.td t2 ht2).imp id (fun ⟨k, b, m, q1, q2, q3, q4⟩ => ⟨k, b, m, q1, q2, by rw [f]; exact q3, q4⟩)
  · rw [hh 1 (by decide)] at h0
    exact ⟨fun k hk => by rw [f, f, f]; exact (h.ng h0).1 k hk, fun t2 ht2 => by rw [g2]; exact (h.ng h0).2 t2 ht2⟩
end WF

/-! TEXTS of drawers, read: positions and rows -/
abbrev Tx : Type := Nat × (Nat → Int32)
abbrev Rw : Type := Int32 × Int32 × Int32 × Nat
def ch (t : Tx) (i : Nat) : Nat := (t.2 i).toNatClampNeg
def txOk (t : Tx) : Prop := t.1 ≤ 60 ∧ ∀ i, i < t.1 → t.2 i = nI (ch t i) ∧ ch t i < 65536
def sg (t : Tx) (p lo hi : Nat) : Bool := decide (p < t.1 ∧ lo ≤ ch t p ∧ ch t p ≤ hi)
def rdD (t : Tx) (p lo hi : Nat) : Option Nat × Nat := if sg t p (lo + 48) (hi + 48) = true then (some (ch t p - 48), p + 1) else (none, p)
def rdN2 (t : Tx) (q : Nat) : Option Nat × Nat := match (rdD t q 0 5).1 with
  | some d => (some (10 + d), (rdD t q 0 5).2)
  | none => (some 1, q)
def rdN (t : Tx) (p : Nat) : Option Nat × Nat := if (rdD t p 0 9).1 = some 1 then rdN2 t (rdD t p 0 9).2 else rdD t p 0 9
def oN : Option Nat → Int32
  | some k => nI k
  | none => -1
def rdO (t : Tx) (p : Nat) : Option Int32 × Nat := if sg t p 99 99 = true then (some (-5), p + 1) else ((rdN t p).1.map nI, (rdN t p).2)
def rdH (t : Tx) (p : Nat) : Option (Int32 × Int32) × Nat :=
  if sg t p 104 104 = true then (some (0, -5), p + 1) else if sg t p 115 115 = true then (some (3, -5), p + 1) else if sg t p 107 107 = true then ((rdD t (p + 1) 0 9).1.map (fun d => (1, nI d)), (rdD t (p + 1) 0 9).2) else if sg t p 108 108 = true then ((rdN t (p + 1)).1.map (fun d => (2, nI d)), (rdN t (p + 1)).2) else (none, p)
def rdB (t : Tx) (p : Nat) : Option Nat × Nat := if sg t p 42 42 = true then rdD t (p + 1) 1 3 else (some 0, p)
def rdW (t : Tx) (p : Nat) : Option Rw × Nat := match (rdO t p).1 with
  | none => (none, (rdO t p).2)
  | some o => match (rdH t (rdO t p).2).1 with
    | none => (none, (rdH t (rdO t p).2).2)
    | some hb => ((rdB t (rdH t (rdO t p).2).2).1.map (fun b => (o, hb.1, hb.2, b)), (rdB t (rdH t (rdO t p).2).2).2)
def upW (rs : Nat → Rw) (f : Nat) (w : Rw) : Nat → Rw := fun i => if i = f then w else rs i
def rdA (t : Tx) : Nat → Nat → Nat → (Nat → Rw) → Option (Nat × (Nat → Rw)) × Nat
  | 0, p, f, rs => (some (f, rs), p)
  | m + 1, p, f, rs => if p < t.1 then if sg t p 59 59 = true then match (rdW t (p + 1)).1 with
      | some w => rdA t m (rdW t (p + 1)).2 (f + 1) (upW rs f w)
      | none => (none, (rdW t (p + 1)).2)
    else (none, p) else (some (f, rs), p)
def rdAll (t : Tx) : Option (Nat × (Nat → Rw)) × Nat := match (rdW t 0).1 with
  | some w => rdA t 60 (rdW t 0).2 1 (fun _ => w)
  | none => (none, (rdW t 0).2)
def rwOk (w : Rw) : Prop := (w.1 = -5 ∨ ∃ j, j ≤ 15 ∧ w.1 = nI j) ∧ (w.2.1 = 0 ∨ w.2.1 = 3 ∨ (w.2.1 = 1 ∧ ∃ j, j < 10 ∧ w.2.2.1 = nI j) ∨ (w.2.1 = 2 ∧ ∃ j, j < 16 ∧ w.2.2.1 = nI j)) ∧ w.2.2.2 ≤ 3
section PZ
variable {t : Tx} {p lo hi k : Nat}
theorem sg_t (h : sg t p lo hi = true) : p < t.1 ∧ lo ≤ ch t p ∧ ch t p ≤ hi := of_decide_eq_true h
theorem rdD_p (hp : p ≤ t.1) : p ≤ (rdD t p lo hi).2 ∧ (rdD t p lo hi).2 ≤ t.1 := by
  unfold rdD
  split
  · rename_i h
    have := (sg_t h).1
    exact ⟨Nat.le_succ p, this⟩
  · exact ⟨Nat.le_refl _, hp⟩
theorem rdD_v (h : (rdD t p lo hi).1 = some k) : lo ≤ k ∧ k ≤ hi ∧ (rdD t p lo hi).2 = p + 1 := by
  unfold rdD at h ⊢
  by_cases c : sg t p (lo + 48) (hi + 48) = true
  · rw [if_pos c] at h ⊢
    have := sg_t c
    have h2 : ch t p - 48 = k := Option.some.inj h
    exact ⟨by omega, by omega, rfl⟩
  · rw [if_neg c] at h; cases h
theorem rdN_p (hp : p ≤ t.1) : p ≤ (rdN t p).2 ∧ (rdN t p).2 ≤ t.1 := by
  have h1 := rdD_p (lo := 0) (hi := 9) hp
  unfold rdN
  split
  · unfold rdN2
    have h2 := rdD_p (p := (rdD t p 0 9).2) (lo := 0) (hi := 5) h1.2
    split
    · exact ⟨Nat.le_trans h1.1 h2.1, h2.2⟩
    · exact h1
  · exact h1
theorem rdN_v (hp : p ≤ t.1) (h : (rdN t p).1 = some k) : k ≤ 15 ∧ p + 1 ≤ (rdN t p).2 := by
  unfold rdN at h ⊢
  by_cases c : (rdD t p 0 9).1 = some 1
  · rw [if_pos c] at h ⊢
    have h1 := (rdD_v c).2.2
    have hp1 := (rdD_p (lo := 0) (hi := 9) hp).2
    unfold rdN2 at h ⊢
    have h2 := rdD_p (p := (rdD t p 0 9).2) (lo := 0) (hi := 5) hp1
    cases hd : (rdD t (rdD t p 0 9).2 0 5).1 with
    | some d =>
      rw [hd] at h
      have h3 := rdD_v hd
      have h4 : 10 + d = k := Option.some.inj h
      refine ⟨by omega, ?_⟩
      show p + 1 ≤ (rdD t (rdD t p 0 9).2 0 5).2
      omega
    | none =>
      rw [hd] at h
      have h4 : 1 = k := Option.some.inj h
      refine ⟨by omega, ?_⟩
      show p + 1 ≤ (rdD t p 0 9).2
      omega
  · rw [if_neg c] at h ⊢
    have := rdD_v h
    exact ⟨by omega, by omega⟩
theorem rdO_p (hp : p ≤ t.1) : p ≤ (rdO t p).2 ∧ (rdO t p).2 ≤ t.1 := by
  unfold rdO
  split
  · rename_i h
    have := (sg_t h).1
    exact ⟨Nat.le_succ p, this⟩
  · exact rdN_p hp
theorem rdO_v {o : Int32} (hp : p ≤ t.1) (h : (rdO t p).1 = some o) : (o = -5 ∨ ∃ j, j ≤ 15 ∧ o = nI j) ∧ p + 1 ≤ (rdO t p).2 := by
  unfold rdO at h ⊢
  by_cases c : sg t p 99 99 = true
  · rw [if_pos c] at h ⊢
    exact ⟨Or.inl (Option.some.inj h).symm, Nat.le_refl _⟩
  · rw [if_neg c] at h ⊢
    obtain ⟨k, h1, h2⟩ := Option.map_eq_some_iff.mp h
    have := rdN_v hp h1
    exact ⟨Or.inr ⟨k, this.1, h2.symm⟩, this.2⟩
theorem rdH_p (hp : p ≤ t.1) : p ≤ (rdH t p).2 ∧ (rdH t p).2 ≤ t.1 := by
  unfold rdH
  split
  · rename_i h; exact ⟨Nat.le_succ p, (sg_t h).1⟩
  · split
    · rename_i h; exact ⟨Nat.le_succ p, (sg_t h).1⟩
    · split
      · rename_i h
        have := rdD_p (p := p + 1) (lo := 0) (hi := 9) (sg_t h).1
        exact ⟨by show p ≤ (rdD t (p + 1) 0 9).2; omega, this.2⟩
      · split
        · rename_i h
          have := rdN_p (p := p + 1) (sg_t h).1
          exact ⟨by show p ≤ (rdN t (p + 1)).2; omega, this.2⟩
        · exact ⟨Nat.le_refl _, hp⟩
theorem rdH_v {hb : Int32 × Int32} (hp : p ≤ t.1) (h : (rdH t p).1 = some hb) : (hb.1 = 0 ∨ hb.1 = 3 ∨ (hb.1 = 1 ∧ ∃ j, j < 10 ∧ hb.2 = nI j) ∨ (hb.1 = 2 ∧ ∃ j, j < 16 ∧ hb.2 = nI j)) ∧ p + 1 ≤ (rdH t p).2 := by
  unfold rdH at h ⊢
  by_cases c1 : sg t p 104 104 = true
  · rw [if_pos c1] at h ⊢
    rw [← Option.some.inj h]; exact ⟨Or.inl rfl, Nat.le_refl _⟩
  · rw [if_neg c1] at h ⊢
    by_cases c2 : sg t p 115 115 = true
    · rw [if_pos c2] at h ⊢
      rw [← Option.some.inj h]; exact ⟨Or.inr (Or.inl rfl), Nat.le_refl _⟩
    · rw [if_neg c2] at h ⊢
      by_cases c3 : sg t p 107 107 = true
      · rw [if_pos c3] at h ⊢
        obtain ⟨k, h1, h2⟩ := Option.map_eq_some_iff.mp h
        have := rdD_v h1
        rw [← h2]
        exact ⟨Or.inr (Or.inr (Or.inl ⟨rfl, k, by omega, rfl⟩)), by show p + 1 ≤ (rdD t (p + 1) 0 9).2; omega⟩
      · rw [if_neg c3] at h ⊢
        by_cases c4 : sg t p 108 108 = true
        · rw [if_pos c4] at h ⊢
          obtain ⟨k, h1, h2⟩ := Option.map_eq_some_iff.mp h
          have := rdN_v (p := p + 1) (sg_t c4).1 h1
          rw [← h2]
          exact ⟨Or.inr (Or.inr (Or.inr ⟨rfl, k, by omega, rfl⟩)), by show p + 1 ≤ (rdN t (p + 1)).2; omega⟩
        · rw [if_neg c4] at h; cases h
theorem rdB_p (hp : p ≤ t.1) : p ≤ (rdB t p).2 ∧ (rdB t p).2 ≤ t.1 := by
  unfold rdB
  split
  · rename_i h
    have := rdD_p (p := p + 1) (lo := 1) (hi := 3) (sg_t h).1
    exact ⟨by omega, this.2⟩
  · exact ⟨Nat.le_refl _, hp⟩
theorem rdB_v {b : Nat} (h : (rdB t p).1 = some b) : b ≤ 3 := by
  unfold rdB at h
  by_cases c : sg t p 42 42 = true
  · rw [if_pos c] at h
    exact (rdD_v h).2.1
  · rw [if_neg c] at h
    rw [← Option.some.inj h]; omega
theorem rdW_p (hp : p ≤ t.1) : p ≤ (rdW t p).2 ∧ (rdW t p).2 ≤ t.1 := by
  have h1 := rdO_p hp
  have h2 := rdH_p h1.2
  have h3 := rdB_p h2.2
  unfold rdW
  split
  · exact h1
  · split
    · exact ⟨Nat.le_trans h1.1 h2.1, h2.2⟩
    · exact ⟨Nat.le_trans h1.1 (Nat.le_trans h2.1 h3.1), h3.2⟩
theorem rdW_v {w : Rw} (hp : p ≤ t.1) (h : (rdW t p).1 = some w) : rwOk w ∧ p + 2 ≤ (rdW t p).2 := by
  have h1 := rdO_p hp
  have h2 := rdH_p h1.2
  have h3 := rdB_p h2.2
  unfold rdW at h ⊢
  cases ho : (rdO t p).1 with
  | none => rw [ho] at h; cases h
  | some o =>
    rw [ho] at h
    have g1 := rdO_v hp ho
    dsimp only at h ⊢
    cases hh : (rdH t (rdO t p).2).1 with
    | none => rw [hh] at h; cases h
    | some hb =>
      rw [hh] at h
      have g2 := rdH_v h1.2 hh
      dsimp only at h ⊢
      obtain ⟨b, h4, h5⟩ := Option.map_eq_some_iff.mp h
      rw [← h5]
      exact ⟨⟨g1.1, g2.1, rdB_v h4⟩, by omega⟩
end PZ

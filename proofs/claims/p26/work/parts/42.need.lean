/-! WHAT IS NEEDED: steps as numbers below 76 (an opening k, a taking 16 + t, a lifting 28 + 3 k + i), over a row e with n drawers -/
/-- y is among the drawers from x on outwards -/
def up (a : V) : Nat → Int32 → Nat → Prop
  | 0, _, _ => False
  | m + 1, x, y => x ≠ -5 ∧ (x.toNatClampNeg = y ∨ up a m (fd a x.toNatClampNeg 0) y)
def UP (a : V) (k y : Nat) : Prop := up a 16 (fd a k 0) y
def lfN (a : V) (k : Nat) : Nat := (fd a k 5).toNatClampNeg
def bmN (a : V) (k : Nat) : Nat := (fd a k 4).toNatClampNeg
def byN (a : V) (k : Nat) : Nat := (fd a k 2).toNatClampNeg
def plN (a : V) (t : Nat) : Nat := (ft a t 0).toNatClampNeg
def dpN (a : V) (t : Nat) : Nat := (ft a t 1).toNatClampNeg
def clo (e : V) (k : Nat) : Prop := fd e k 6 = 0
def way (e : V) (k t : Nat) : Prop := (UP e k t ∨ t = k) ∧ clo e t
def ndO (n : Nat) (e : V) (k t : Nat) : Prop := k < n ∧ clo e k ∧ ((UP e k t ∧ clo e t) ∨ (fd e k 1 = 1 ∧ ft e (byN e k) 2 = 0 ∧ t = 16 + byN e k) ∨ (fd e k 1 = 2 ∧ byN e k < n ∧ clo e (byN e k) ∧ t = byN e k))
def ndT (e : V) (j t : Nat) : Prop := j < 12 ∧ ft e j 0 ≠ -5 ∧ ft e j 2 = 0 ∧ (way e (plN e j) t ∨ ∃ i, lfN e (plN e j) ≤ i ∧ i < dpN e j ∧ t = 28 + 3 * plN e j + i)
def ndL (n : Nat) (e : V) (k i t : Nat) : Prop := k < n ∧ lfN e k ≤ i ∧ i < bmN e k ∧ (way e k t ∨ (ft e 10 2 = 0 ∧ t = 26) ∨ ∃ i2, lfN e k ≤ i2 ∧ i2 < i ∧ t = 28 + 3 * k + i2)
def ND (n : Nat) (e : V) (s t : Nat) : Prop := ndO n e s t ∨ (∃ j, s = 16 + j ∧ ndT e j t) ∨ (∃ k i, s = 28 + 3 * k + i ∧ ndL n e k i t)
def BAD (n : Nat) (e : V) (k : Nat) : Prop := k < n ∧ clo e k ∧ fd e k 1 = 2 ∧ n ≤ byN e k
/-- the possible steps: the least set with each step all of whose needs are in it -/
def CANS (n : Nat) (e : V) (s : Nat) : Prop := ∀ X : Nat → Prop, (∀ s, s < 76 → ¬ BAD n e s → (∀ t, t < 76 → ND n e s t → X t) → X s) → X s
/-- what is needed to have drawer d open and reached -/
def CLO (n : Nat) (e : V) (d s : Nat) : Prop := ∀ X : Nat → Prop, (∀ t, way e d t → X t) → (∀ s t, s < 76 → t < 76 → X s → ND n e s t → X t) → X s
section NE
variable {n : Nat} {e : V} {s t d k y : Nat}
theorem cans_in (hs : s < 76) (hb : ¬ BAD n e s) (h : ∀ t, t < 76 → ND n e s t → CANS n e t) : CANS n e s := fun X hX => hX s hs hb (fun t ht hn => h t ht hn X hX)
theorem cans_out (h : CANS n e s) : ¬ BAD n e s ∧ ∀ t, t < 76 → ND n e s t → CANS n e t :=
  (h (fun s => CANS n e s ∧ (¬ BAD n e s ∧ ∀ t, t < 76 → ND n e s t → CANS n e t)) (fun s hs hb hx => ⟨cans_in hs hb (fun t ht hn => (hx t ht hn).1), hb, fun t ht hn => (hx t ht hn).1⟩)).2
theorem clo_seed (h : way e d t) : CLO n e d t := fun X h1 _ => h1 t h
theorem clo_step (hs : s < 76) (ht : t < 76) (h : CLO n e d s) (hn : ND n e s t) : CLO n e d t := fun X h1 h2 => h2 s t hs ht (h X h1 h2) hn
theorem clo_cans (hd : ∀ t, way e d t → CANS n e t) (h : CLO n e d s) : CANS n e s := h (CANS n e) hd (fun s t _ ht hs hn => (cans_out hs).2 t ht hn)
/-! the drawers around -/
theorem up_w {a b : V} (h : ∀ k, k < n → fd b k 0 = fd a k 0) (ho : outOk n a) (hn : n ≤ 16) : ∀ (m : Nat) (x : Int32), (x = -5 ∨ ∃ j, j < n ∧ x = nI j) → (up a m x y ↔ up b m x y)
  | 0, _, _ => Iff.rfl
  | m + 1, x, hx => by
    unfold up
    rcases hx with rfl | ⟨j, hj, rfl⟩
    · exact ⟨fun z => absurd rfl z.1, fun z => absurd rfl z.1⟩
    · rw [kcl (by omega), h j hj]
      have := up_w h ho hn m (fd a j 0) ((ho j hj).imp id (fun ⟨i, hi, e⟩ => ⟨i, by omega, e⟩))
      rw [this]
theorem UP_w {a b : V} (h : ∀ k, k < n → fd b k 0 = fd a k 0) (ho : outOk n a) (hn : n ≤ 16) (hk : k < n) : UP a k y ↔ UP b k y := by
  unfold UP
  rw [h k hk]
  exact up_w h ho hn 16 _ ((ho k hk).imp id (fun ⟨i, hi, e⟩ => ⟨i, by omega, e⟩))
theorem up_lt {a : V} (ho : outOk n a) (hn : n ≤ 16) : ∀ (m : Nat) (x : Int32), (x = -5 ∨ ∃ j, j < n ∧ x = nI j) → up a m x y → y < n
  | 0, _, _, h => h.elim
  | m + 1, x, hx, h => by
    unfold up at h
    obtain ⟨j, hj, rfl⟩ := hx.resolve_left h.1
    rw [kcl (by omega)] at h
    rcases h.2 with e | h2
    · omega
    · exact up_lt ho hn m _ ((ho j hj).imp id (fun ⟨i, hi, e⟩ => ⟨i, by omega, e⟩)) h2
theorem UP_lt {a : V} (ho : outOk n a) (hn : n ≤ 16) (hk : k < n) (h : UP a k y) : y < n := up_lt ho hn 16 _ ((ho k hk).imp id (fun ⟨i, hi, e⟩ => ⟨i, by omega, e⟩)) h
theorem way_lt {a : V} (ho : outOk n a) (hn : n ≤ 16) (hk : k < n) (h : way a k t) : t < n := by
  rcases h.1 with z | z
  · exact UP_lt ho hn hk z
  · omega
/-- more rounds than drawers change nothing -/
theorem up_st {a : V} (ho : outOk n a) (hn : n ≤ 16) : ∀ (m1 m2 : Nat) (x : Int32), (x = -5 ∨ ∃ j, j < n ∧ j < m1 ∧ j < m2 ∧ x = nI j) → (up a m1 x y ↔ up a m2 x y)
  | 0, m2, x, hx => by
    have e : x = -5 := hx.resolve_right (fun ⟨j, _, h, _⟩ => absurd h (by omega))
    subst e
    cases m2 with
    | zero => exact Iff.rfl
    | succ m2 => exact ⟨fun z => z.elim, fun z => absurd rfl z.1⟩
  | m1 + 1, 0, x, hx => by
    have e : x = -5 := hx.resolve_right (fun ⟨j, _, _, h, _⟩ => absurd h (by omega))
    subst e
    exact ⟨fun z => absurd rfl z.1, fun z => z.elim⟩
  | m1 + 1, m2 + 1, x, hx => by
    rcases hx with rfl | ⟨j, hj, h1, h2, rfl⟩
    · exact ⟨fun z => absurd rfl z.1, fun z => absurd rfl z.1⟩
    · unfold up
      rw [kcl (by omega), up_st ho hn m1 m2 _ ((ho j hj).imp id (fun ⟨i, hi, e⟩ => ⟨i, by omega, by omega, by omega, e⟩))]
theorem UP_un {a : V} (ho : outOk n a) (hn : n ≤ 16) {j : Nat} (hj : j < n) (hk : k < n) (e : fd a k 0 = nI j) : UP a k y ↔ (j = y ∨ UP a j y) := by
  have hjk : j < k := by
    rcases ho k hk with z | ⟨i, hi, z⟩
    · rw [e] at z; exact absurd z (m5_ne j (by omega))
    · have := nI_inj' (by omega) (by omega) (e.symm.trans z); omega
  unfold UP
  rw [e]
  show up a (15 + 1) (nI j) y ↔ _
  unfold up
  rw [kcl (by omega)]
  rw [up_st (y := y) ho hn 15 16 _ ((ho j hj).imp id (fun ⟨i, hi, e⟩ => ⟨i, by omega, by omega, by omega, e⟩))]
  exact ⟨fun z => z.2, fun z => ⟨m5_ne j (by omega), z⟩⟩
theorem UP_none {a : V} (e : fd a k 0 = -5) : ¬ UP a k y := fun h => by
  unfold UP at h
  rw [e] at h
  exact h.1 rfl
theorem rch_up {a : V} (ho : outOk n a) (hn : n ≤ 16) : ∀ (m : Nat) (x : Int32), (x = -5 ∨ ∃ j, j < n ∧ x = nI j) → (rch a m x = true ↔ ∀ y, up a m x y → fd a y 6 = 1)
  | 0, _, _ => ⟨fun _ y h => h.elim, fun _ => rfl⟩
  | m + 1, x, hx => by
    unfold rch up
    rcases hx with rfl | ⟨j, hj, rfl⟩
    · exact ⟨fun _ y h => absurd rfl h.1, fun _ => if_pos rfl⟩
    · have h5 := m5_ne j (by omega)
      rw [if_neg h5, kcl (by omega), Bool.and_eq_true, rch_up ho hn m _ ((ho j hj).imp id (fun ⟨i, hi, e⟩ => ⟨i, by omega, e⟩)), beq_iff_eq]
      constructor
      · rintro ⟨h1, h2⟩ y ⟨-, rfl | h3⟩
        · exact h1
        · exact h2 y h3
      · intro h
        exact ⟨h j ⟨h5, Or.inl rfl⟩, fun y hy => h y ⟨h5, Or.inr hy⟩⟩
theorem rchd_up {a : V} (ho : outOk n a) (hn : n ≤ 16) (hk : k < n) : rchd a k = true ↔ ∀ y, UP a k y → fd a y 6 = 1 := rch_up ho hn 16 _ ((ho k hk).imp id (fun ⟨i, hi, e⟩ => ⟨i, by omega, e⟩))
end NE

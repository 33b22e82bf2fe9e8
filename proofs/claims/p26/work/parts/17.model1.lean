/-! THE MODEL's methods, 1: reads. The state is the row a = M 74 -/
abbrev V : Type := Nat → Int32
/-- the drawers of a row: field j of drawer k -/
abbrev fd (a : V) (k j : Nat) : Int32 := a (40 + 8 * k + j)
/-- field j of thing t -/
abbrev ft (a : V) (t j : Nat) : Int32 := a (4 + 3 * t + j)
/-- whether all drawers from x on outwards are open -/
def rch (a : V) : Nat → Int32 → Bool
  | 0, _ => true
  | n + 1, x => if x = -5 then true else (fd a x.toNatClampNeg 6 == 1) && rch a n (fd a x.toNatClampNeg 0)
/-- drawer k can be reached -/
def rchd (a : V) (k : Nat) : Bool := rch a 16 (fd a k 0)
/-- what is always so of a row with n drawers: the places of drawers and things -/
def outOk (n : Nat) (a : V) : Prop := ∀ k, k < n → fd a k 0 = -5 ∨ ∃ j, j < k ∧ fd a k 0 = nI j
theorem rch_st {a : V} {n : Nat} (ho : outOk n a) (hn : n ≤ 16) : ∀ (m1 m2 : Nat) (x : Int32), (x = -5 ∨ ∃ j, j < n ∧ j < m1 ∧ j < m2 ∧ x = nI j) → 0 < m1 → 0 < m2 → rch a m1 x = rch a m2 x
  | 0, _, _, _, h, _ => absurd h (by omega)
  | _, 0, _, _, _, h => absurd h (by omega)
  | m1 + 1, m2 + 1, x, hx, _, _ => by
    unfold rch
    rcases hx with rfl | ⟨j, hj, h1, h2, rfl⟩
    · simp
    · have h5 := m5_ne j (by omega)
      rw [if_neg h5, if_neg h5, kcl (by omega)]
      congr 1
      rcases ho j hj with e | ⟨i, hi, e⟩
      · rw [e]
        cases m1 <;> cases m2 <;> simp [rch]
      · rw [e]
        exact rch_st ho hn m1 m2 _ (Or.inr ⟨i, by omega, by omega, by omega, rfl⟩) (by omega) (by omega)
theorem vpl {k n : Nat} (h : k < n) (hn : n < 2 ^ 31 := by decide) : vp_in (OfNat.ofNat k : Int32) n := vp_in_nI h hn
section M1
variable {d n : Nat} {M : Im} {h : Hm} {D : Dm} {Q : Int32 → Im → Hm → Dm → Prop}
theorem dr_in {v : Int32} (hn : n ≤ 16) : (0 ≤ v ∧ v ≤ nI n - 1) ↔ ∃ k, k < n ∧ v = nI k := by
  have e : (nI n - 1).toInt = (n : Int) - 1 := by
    have h1 := pk_sub_toInt (a := n) (b := 1) (by omega) (by decide)
    exact h1
  constructor
  · rintro ⟨h0, h1⟩
    obtain ⟨j, hj, rfl⟩ := nI_of (Int32.not_lt.mpr h0)
    refine ⟨j, ?_, rfl⟩
    have h2 := Int32.le_iff_toInt_le.mp h1
    rw [e, nI_toInt hj] at h2
    omega
  · rintro ⟨k, hk, rfl⟩
    refine ⟨nI_pos' (by omega), Int32.le_iff_toInt_le.mpr ?_⟩
    rw [e, nI_toInt (by omega)]
    omega
/-- whether the hold lets drawer k be opened -/
def lets (a : V) (k : Nat) : Bool := if fd a k 1 = 1 then ft a (fd a k 2).toNatClampNeg 2 == 1 else if fd a k 1 = 2 then fd a (fd a k 2).toNatClampNeg 6 == 1 else true
def canO (a : V) (k : Nat) : Bool := (fd a k 6 == 0) && (rchd a k && lets a k)
def canL (a : V) (k : Nat) : Bool := (fd a k 6 == 1) && (rchd a k && (decide (fd a k 5 < fd a k 4) && (ft a 10 2 == 1)))
def canT (a : V) (t : Nat) : Bool := if ft a t 2 = 1 then false else if ft a t 0 = -5 then ft a t 2 == 0 else (fd a (ft a t 0).toNatClampNeg 6 == 1) && (rchd a (ft a t 0).toNatClampNeg && decide (ft a t 1 ≤ fd a (ft a t 0).toNatClampNeg 5))
/-- keys and holders are in range -/
def byOk (n : Nat) (a : V) : Prop := ∀ k, k < n → (fd a k 1 = 1 → ∃ j, j < 10 ∧ fd a k 2 = nI j) ∧ (fd a k 1 = 2 → ∃ j, j < 16 ∧ fd a k 2 = nI j)
/-- things lie on the table or in drawers -/
def thOk (n : Nat) (a : V) : Prop := ∀ t, t < 12 → ft a t 0 = -5 ∨ ∃ k, k < n ∧ ft a t 0 = nI k
end M1

/-! THE MODEL's methods, 3: writes -/
def cpr (s o : V) (i : Nat) : V := fun j => if j < i then s j else o j
theorem cpr_0 (s o : V) : cpr s o 0 = o := by funext j; unfold cpr; rw [if_neg (by omega)]
theorem cpr_up (s o : V) (i : Nat) : updH (cpr s o i) i (s i) = cpr s o (i + 1) := by
  funext j; unfold updH cpr
  by_cases e : j = i
  · rw [if_pos e, if_pos (by omega), e]
  · rw [if_neg e]
    by_cases e2 : j < i
    · rw [if_pos e2, if_pos (by omega)]
    · rw [if_neg e2, if_neg (by omega)]
theorem mulrow (p i : Nat) : (168 : Int32) * nI p + nI i = nI (168 * p + i) := by
  have e : (168 : Int32) * nI p = nI (168 * p) := by
    apply Int32.toBitVec_inj.mp
    rw [Int32.toBitVec_mul]
    show BitVec.ofNat 32 168 * BitVec.ofNat 32 p = BitVec.ofNat 32 (168 * p)
    exact (BitVec.ofNat_mul 168 p).symm
  rw [e, nI_add]
theorem nI_inj' {a b : Nat} (ha : a < 2 ^ 31) (hb : b < 2 ^ 31) (h : nI a = nI b) : a = b := by
  have := congrArg Int32.toInt h
  rw [nI_toInt ha, nI_toInt hb] at this
  omega
theorem nI_nz (n : Nat) (h0 : 0 < n) (h : n < 2 ^ 31) : ¬ nI n = 0 := fun z => by
  have := nI_inj' (b := 0) h (by decide) z
  omega
section M3
variable {d n k : Nat} {M : Im} {h : Hm} {D : Dm}
end M3

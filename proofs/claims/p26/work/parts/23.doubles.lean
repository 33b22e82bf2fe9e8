/-! doubles and floats, exactly: numbers that a format holds -/
section RR
variable {f : FP.Core.Fmt} {c A B j k m a : Nat} {e E : Int}
theorem lg_of {n a : Nat} (h1 : 2 ^ a ≤ n) (h2 : n < 2 ^ (a + 1)) : n.log2 = a := by
  have hn : n ≠ 0 := by have := Nat.two_pow_pos a; omega
  have l1 := Nat.log2_self_le hn
  have l2 : n < 2 ^ (n.log2 + 1) := Nat.lt_log2_self
  have p1 : a < n.log2 + 1 := (Nat.pow_lt_pow_iff_right (by decide : 1 < 2)).mp (by omega)
  have p2 : n.log2 < a + 1 := (Nat.pow_lt_pow_iff_right (by decide : 1 < 2)).mp (by omega)
  omega
theorem rr_ex (hB : B = 2 ^ m) (hc1 : 2 ^ (f.p - 1) ≤ c) (hc2 : c < 2 ^ f.p) (hp : 1 ≤ f.p) (hA : A * 2 ^ j = c * 2 ^ k) (ha1 : 2 ^ a ≤ A) (ha2 : A < 2 ^ (a + 1)) (hak : a + j = f.p - 1 + k) (hE : E = e + k - m - j) (h1 : f.qmin ≤ E) (h2 : E ≤ f.qmax) : FP.Core.roundRatio f false A B e = .fin false c E := by
  have lA := lg_of ha1 ha2
  have lB : B.log2 = m := by rw [hB]; exact lg_of (Nat.le_refl _) (by rw [Nat.pow_succ]; have := Nat.two_pow_pos m; omega)
  have hA0 : A ≠ 0 := by have := Nat.two_pow_pos a; omega
  have hld : FP.Core.leading A B = (a : Int) - m := by
    unfold FP.Core.leading
    rw [lA, lB]
    dsimp only
    rw [if_pos]
    rw [hB]
    rcases Int.le_total (m : Int) a with h | h
    · rw [show (-((a : Int) - m)).toNat = 0 by omega, ← Nat.pow_add, show m + ((a : Int) - m).toNat = a by omega, Nat.pow_zero, Nat.mul_one]; exact ha1
    · rw [show ((a : Int) - m).toNat = 0 by omega, show (-((a : Int) - m)).toNat = m - a by omega, Nat.pow_zero, Nat.mul_one]
      calc 2 ^ m = 2 ^ a * 2 ^ (m - a) := by rw [← Nat.pow_add]; congr 1; omega
        _ ≤ A * 2 ^ (m - a) := Nat.mul_le_mul_right _ ha1
  have hq : FP.Core.quantum f A B e = E := by
    unfold FP.Core.quantum
    rw [hld]
    omega
  unfold FP.Core.roundRatio
  rw [if_neg hA0, hq]
  unfold FP.Core.roundAt
  have hn : FP.Core.nearest (FP.Core.unitsNum A e E) (FP.Core.unitsDen B e E) = c := by
    have hden : 0 < FP.Core.unitsDen B e E := by
      unfold FP.Core.unitsDen; rw [hB]; exact Nat.mul_pos (Nat.two_pow_pos _) (Nat.two_pow_pos _)
    have hnum : FP.Core.unitsNum A e E = c * FP.Core.unitsDen B e E := by
      unfold FP.Core.unitsNum FP.Core.unitsDen
      rw [hB]
      rcases Nat.le_total (m + j) k with h | h
      · rw [show (e - E).toNat = 0 by omega, show (E - e).toNat = k - m - j by omega, Nat.pow_zero, Nat.mul_one, ← Nat.pow_add, show m + (k - m - j) = k - j by omega]
        refine Nat.eq_of_mul_eq_mul_right (Nat.two_pow_pos j) ?_
        rw [hA, Nat.mul_assoc, ← Nat.pow_add]
        congr 2; omega
      · rw [show (e - E).toNat = m + j - k by omega, show (E - e).toNat = 0 by omega, Nat.pow_zero, Nat.mul_one]
        refine Nat.eq_of_mul_eq_mul_right (Nat.two_pow_pos k) ?_
        rw [Nat.mul_assoc, ← Nat.pow_add, show m + j - k + k = j + m by omega, Nat.pow_add, ← Nat.mul_assoc, hA, Nat.mul_assoc, Nat.mul_assoc, Nat.mul_comm (2 ^ m)]
    rw [hnum]
    unfold FP.Core.nearest
    rw [Nat.mul_mod_left, if_pos (by omega), Nat.mul_div_cancel _ hden]
  rw [hn]
  unfold FP.Core.settle FP.Core.bound
  rw [if_pos hc2, if_pos h2]
end RR
def mk64 (c : Nat) (E : Int) : UInt64 := .ofNat (FP.Core.encode FP.Core.b64 (.fin false c E))
def mk32 (c : Nat) (E : Int) : UInt32 := .ofNat (FP.Core.encode FP.Core.b32 (.fin false c E))
theorem mk64_nat {c : Nat} {E : Int} (h1 : 2 ^ 52 ≤ c) (h2 : c < 2 ^ 53) (h3 : -1074 ≤ E) (h4 : E ≤ 971) : (mk64 c E).toNat = ((E + 1074).toNat + 1) * 2 ^ 52 + (c - 2 ^ 52) := by
  have e : FP.Core.encode FP.Core.b64 (.fin false c E) = ((E + 1074).toNat + 1) * 2 ^ 52 + (c - 2 ^ 52) := by
    unfold FP.Core.encode
    rw [show FP.Core.Fmt.tails FP.Core.b64 = 2 ^ 52 from rfl, show FP.Core.Fmt.qmin FP.Core.b64 = -1074 from rfl]
    dsimp only
    rw [if_neg (by omega)]
    unfold FP.Core.assemble
    rw [show FP.Core.Fmt.tails FP.Core.b64 = 2 ^ 52 from rfl]
    simp only [Bool.toNat_false, Nat.zero_mul, Nat.zero_add]
    rw [show (E - -1074) = E + 1074 by omega]
  unfold mk64
  rw [e, UInt64.toNat_ofNat_of_lt' (by rw [show UInt64.size = 2 ^ 64 from rfl]; omega)]
theorem mk32_nat {c : Nat} {E : Int} (h1 : 2 ^ 23 ≤ c) (h2 : c < 2 ^ 24) (h3 : -149 ≤ E) (h4 : E ≤ 104) : (mk32 c E).toNat = ((E + 149).toNat + 1) * 2 ^ 23 + (c - 2 ^ 23) := by
  have e : FP.Core.encode FP.Core.b32 (.fin false c E) = ((E + 149).toNat + 1) * 2 ^ 23 + (c - 2 ^ 23) := by
    unfold FP.Core.encode
    rw [show FP.Core.Fmt.tails FP.Core.b32 = 2 ^ 23 from rfl, show FP.Core.Fmt.qmin FP.Core.b32 = -149 from rfl]
    dsimp only
    rw [if_neg (by omega)]
    unfold FP.Core.assemble
    rw [show FP.Core.Fmt.tails FP.Core.b32 = 2 ^ 23 from rfl]
    simp only [Bool.toNat_false, Nat.zero_mul, Nat.zero_add]
    rw [show (E - -149) = E + 149 by omega]
  unfold mk32
  rw [e, UInt32.toNat_ofNat_of_lt' (by rw [show UInt32.size = 2 ^ 32 from rfl]; omega)]
theorem dec64 {c : Nat} {E : Int} (h1 : 2 ^ 52 ≤ c) (h2 : c < 2 ^ 53) (h3 : -1074 ≤ E) (h4 : E ≤ 971) : FP.Core.decode FP.Core.b64 (mk64 c E).toNat = .fin false c E := by
  rw [mk64_nat h1 h2 h3 h4]
  unfold FP.Core.decode FP.Core.fieldE FP.Core.fieldT FP.Core.fieldS
  rw [show FP.Core.Fmt.tails FP.Core.b64 = 2 ^ 52 from rfl, show FP.Core.Fmt.exps FP.Core.b64 = 2 ^ 11 from rfl, show FP.Core.Fmt.qmin FP.Core.b64 = -1074 from rfl]
  rw [show (((E + 1074).toNat + 1) * 2 ^ 52 + (c - 2 ^ 52)) / 2 ^ 52 = (E + 1074).toNat + 1 by omega, show (((E + 1074).toNat + 1) * 2 ^ 52 + (c - 2 ^ 52)) % 2 ^ 52 = c - 2 ^ 52 by omega]
  rw [show ((E + 1074).toNat + 1) % 2 ^ 11 = (E + 1074).toNat + 1 by omega, show ((E + 1074).toNat + 1) / 2 ^ 11 = 0 by omega]
  rw [if_neg (by omega), if_neg (by omega), show 2 ^ 52 + (c - 2 ^ 52) = c by omega, show (-1074 + ((((E + 1074).toNat + 1 : Nat) : Int) - 1)) = E by omega]
  rfl
theorem dec32 {c : Nat} {E : Int} (h1 : 2 ^ 23 ≤ c) (h2 : c < 2 ^ 24) (h3 : -149 ≤ E) (h4 : E ≤ 104) : FP.Core.decode FP.Core.b32 (mk32 c E).toNat = .fin false c E := by
  rw [mk32_nat h1 h2 h3 h4]
  unfold FP.Core.decode FP.Core.fieldE FP.Core.fieldT FP.Core.fieldS
  rw [show FP.Core.Fmt.tails FP.Core.b32 = 2 ^ 23 from rfl, show FP.Core.Fmt.exps FP.Core.b32 = 2 ^ 8 from rfl, show FP.Core.Fmt.qmin FP.Core.b32 = -149 from rfl]
  rw [show (((E + 149).toNat + 1) * 2 ^ 23 + (c - 2 ^ 23)) / 2 ^ 23 = (E + 149).toNat + 1 by omega, show (((E + 149).toNat + 1) * 2 ^ 23 + (c - 2 ^ 23)) % 2 ^ 23 = c - 2 ^ 23 by omega]
  rw [show ((E + 149).toNat + 1) % 2 ^ 8 = (E + 149).toNat + 1 by omega, show ((E + 149).toNat + 1) / 2 ^ 8 = 0 by omega]
  rw [if_neg (by omega), if_neg (by omega), show 2 ^ 23 + (c - 2 ^ 23) = c by omega, show (-149 + ((((E + 149).toNat + 1 : Nat) : Int) - 1)) = E by omega]
  rfl

/-! minutes: the bits of the float -/
theorem lgN {n : Nat} (h : 0 < n) : ∃ a, 2 ^ a ≤ n ∧ n < 2 ^ (a + 1) := ⟨n.log2, Nat.log2_self_le (by omega), Nat.lt_log2_self⟩
section FO
variable {c r : Nat} {e : Int}
theorem fdiv_mk (h1 : 2 ^ 23 ≤ c) (h2 : c < 2 ^ 24) (h3 : -148 ≤ e) (h4 : e ≤ 100) : FP.fdiv (mk32 c e) FP.fconst2 = mk32 c (e - 1) := by
  show UInt32.ofNat (FP.Core.encode FP.Core.b32 (FP.Core.quotient FP.Core.b32 (FP.Core.decode FP.Core.b32 (mk32 c e).toNat) (FP.Core.decode FP.Core.b32 (FP.fconst2).toNat))) = _
  rw [dec32 h1 h2 (by omega) (by omega), show FP.Core.decode FP.Core.b32 (FP.fconst2).toNat = .fin false (2 ^ 23) (-22) by decide +kernel]
  unfold FP.Core.quotient
  dsimp only
  rw [if_neg (by decide)]
  show UInt32.ofNat (FP.Core.encode FP.Core.b32 (FP.Core.roundRatio FP.Core.b32 false _ _ _)) = _
  rw [rr_ex (f := FP.Core.b32) (c := c) (E := e - 1) (m := 23) (j := 0) (k := 0) (a := 23) rfl h1 h2 (by decide) rfl h1 h2 rfl (by omega) (show (-149 : Int) ≤ _ by omega) (show _ ≤ (104 : Int) by omega)]
  rfl
theorem fmul_mk (h1 : 2 ^ 23 ≤ c) (h2 : c < 2 ^ 24) (h3 : -148 ≤ e) (h4 : e ≤ 100) : FP.fmul (mk32 c e) FP.fconst2 = mk32 c (e + 1) := by
  show UInt32.ofNat (FP.Core.encode FP.Core.b32 (FP.Core.round FP.Core.b32 (FP.Core.exactProduct (FP.Core.decode FP.Core.b32 (mk32 c e).toNat) (FP.Core.decode FP.Core.b32 (FP.fconst2).toNat)))) = _
  rw [dec32 h1 h2 (by omega) (by omega), show FP.Core.decode FP.Core.b32 (FP.fconst2).toNat = .fin false (2 ^ 23) (-22) by decide +kernel]
  show UInt32.ofNat (FP.Core.encode FP.Core.b32 (FP.Core.roundRatio FP.Core.b32 false (c * 2 ^ 23) 1 (e + -22))) = _
  rw [rr_ex (f := FP.Core.b32) (c := c) (E := e + 1) (m := 0) (j := 0) (k := 23) (a := 46) rfl h1 h2 (by decide) (by rw [Nat.pow_zero, Nat.mul_one]) (by omega) (by omega) rfl (by omega) (show (-149 : Int) ≤ _ by omega) (show _ ≤ (104 : Int) by omega)]
  rfl
theorem cmp_lt {a b : Int} (h : a < b) : compare a b = .lt := by
  show compareOfLessAndEq a b = _
  unfold compareOfLessAndEq; rw [if_pos h]
theorem cmp_eq (a : Int) : compare a a = .eq := by
  show compareOfLessAndEq a a = _
  unfold compareOfLessAndEq; rw [if_neg (Int.lt_irrefl a), if_pos rfl]
theorem cmp_gt {a b : Int} (h : b < a) : compare a b = .gt := by
  show compareOfLessAndEq a b = _
  unfold compareOfLessAndEq; rw [if_neg (by omega), if_neg (by omega)]
theorem cmp_ge {a b : Int} (h : b ≤ a) : compare a b = .eq ∨ compare a b = .gt := by
  rcases Int.lt_or_eq_of_le h with z | z
  · exact Or.inr (cmp_gt z)
  · exact Or.inl (by rw [z]; exact cmp_eq a)
theorem ord_mk (h1 : 2 ^ 23 ≤ c) (h2 : c < 2 ^ 24) (h3 : -149 ≤ e) (h4 : e ≤ 100) {k : Int} {y : UInt32} (hy : FP.Core.decode FP.Core.b32 y.toNat = .fin false (2 ^ 23) k) : FP.fcmp (mk32 c e) y = some (compare ((c * 2 ^ (e - min e k).toNat : Nat) : Int) ((2 ^ 23 * 2 ^ (k - min e k).toNat : Nat) : Int)) := by
  show FP.Core.order (FP.Core.decode FP.Core.b32 (mk32 c e).toNat) (FP.Core.decode FP.Core.b32 y.toNat) = _
  rw [dec32 h1 h2 (by omega) (by omega), hy]
  rfl
theorem ord_lo (h1 : 2 ^ 23 ≤ c) (h2 : c < 2 ^ 24) (h3 : -149 ≤ e) (h4 : e ≤ 100) {k : Int} {y : UInt32} (hy : FP.Core.decode FP.Core.b32 y.toNat = .fin false (2 ^ 23) k) (hk : e < k) : FP.fcmp (mk32 c e) y = some .lt := by
  rw [ord_mk h1 h2 h3 h4 hy, show min e k = e by omega, show (e - e).toNat = 0 by omega, Nat.pow_zero, Nat.mul_one]
  refine congrArg some (cmp_lt ?_)
  have h5 : 2 ^ 24 ≤ 2 ^ 23 * 2 ^ (k - e).toNat := by
    obtain ⟨j, hj⟩ : ∃ j, (k - e).toNat = j + 1 := ⟨(k - e).toNat - 1, by omega⟩
    rw [hj, Nat.pow_succ]
    have := Nat.two_pow_pos j
    omega
  omega
theorem ord_hi (h1 : 2 ^ 23 ≤ c) (h2 : c < 2 ^ 24) (h3 : -149 ≤ e) (h4 : e ≤ 100) {k : Int} {y : UInt32} (hy : FP.Core.decode FP.Core.b32 y.toNat = .fin false (2 ^ 23) k) (hk : k ≤ e) : FP.fcmp (mk32 c e) y = some .eq ∨ FP.fcmp (mk32 c e) y = some .gt := by
  rw [ord_mk h1 h2 h3 h4 hy, show min e k = k by omega, show (k - k).toNat = 0 by omega, Nat.pow_zero, Nat.mul_one]
  have h5 : c ≤ c * 2 ^ (e - k).toNat := Nat.le_mul_of_pos_right _ (Nat.two_pow_pos _)
  rcases cmp_ge (a := ((c * 2 ^ (e - k).toNat : Nat) : Int)) (b := ((2 ^ 23 : Nat) : Int)) (by omega) with z | z
  · exact Or.inl (congrArg some z)
  · exact Or.inr (congrArg some z)
theorem dec_f1 : FP.Core.decode FP.Core.b32 (FP.fconst1).toNat = .fin false (2 ^ 23) (-23) := by decide +kernel
theorem dec_f2 : FP.Core.decode FP.Core.b32 (FP.fconst2).toNat = .fin false (2 ^ 23) (-22) := by decide +kernel
theorem dec_f0 : FP.Core.decode FP.Core.b32 (FP.fconst0).toNat = .fin false 0 (-149) := by decide +kernel
theorem ord_0 (h1 : 2 ^ 23 ≤ c) (h2 : c < 2 ^ 24) (h3 : -149 ≤ e) (h4 : e ≤ 100) : FP.fcmp (mk32 c e) FP.fconst0 = some .gt := by
  show FP.Core.order (FP.Core.decode FP.Core.b32 (mk32 c e).toNat) (FP.Core.decode FP.Core.b32 (FP.fconst0).toNat) = _
  rw [dec32 h1 h2 (by omega) (by omega), dec_f0]
  show some (compare ((c * 2 ^ (e - min e (-149)).toNat : Nat) : Int) ((0 * 2 ^ ((-149) - min e (-149)).toNat : Nat) : Int)) = _
  refine congrArg some (cmp_gt ?_)
  rw [Nat.zero_mul]
  have := Nat.mul_pos (show 0 < c by omega) (Nat.two_pow_pos (e - min e (-149)).toNat)
  omega
theorem ord_self (h1 : 2 ^ 23 ≤ c) (h2 : c < 2 ^ 24) (h3 : -149 ≤ e) (h4 : e ≤ 100) : FP.fcmp (mk32 c e) (mk32 c e) = some .eq := by
  show FP.Core.order (FP.Core.decode FP.Core.b32 (mk32 c e).toNat) (FP.Core.decode FP.Core.b32 (mk32 c e).toNat) = _
  rw [dec32 h1 h2 (by omega) (by omega)]
  exact congrArg some (cmp_eq _)
/-- (rest - 1) * 8388608 -/
theorem frac_mk (h1 : 2 ^ 23 ≤ c) (h2 : c < 2 ^ 24) : vf_n32 (FP.fsub (mk32 c (-23)) FP.fconst1) ∧ vf_n32 (FP.fmul (FP.fsub (mk32 c (-23)) FP.fconst1) 1258291200) ∧ FP.f2i (FP.fmul (FP.fsub (mk32 c (-23)) FP.fconst1) 1258291200) = nI (c - 2 ^ 23) := by
  have hs : FP.fsub (mk32 c (-23)) FP.fconst1 = UInt32.ofNat (FP.Core.encode FP.Core.b32 (FP.Core.round FP.Core.b32 (.fin false (c - 2 ^ 23) (-23)))) := by
    show UInt32.ofNat (FP.Core.encode FP.Core.b32 (FP.Core.round FP.Core.b32 (FP.Core.exactSum (FP.Core.decode FP.Core.b32 (mk32 c (-23)).toNat) (FP.Core.negate (FP.Core.decode FP.Core.b32 (FP.fconst1).toNat))))) = _
    rw [dec32 h1 h2 (by omega) (by omega), dec_f1]
    have hu : FP.Core.sumUnits false c (-23) true (2 ^ 23) (-23) (-23) = ((c - 2 ^ 23 : Nat) : Int) := by
      show ((c * 2 ^ 0 : Nat) : Int) + -((2 ^ 23 * 2 ^ 0 : Nat) : Int) = _
      omega
    show UInt32.ofNat (FP.Core.encode FP.Core.b32 (FP.Core.round FP.Core.b32 (.fin (FP.Core.sumSign false true (FP.Core.sumUnits false c (-23) true (2 ^ 23) (-23) (-23))) (FP.Core.sumUnits false c (-23) true (2 ^ 23) (-23) (-23)).natAbs (-23)))) = _
    rw [hu, Int.natAbs_natCast]
    rw [show FP.Core.sumSign false true ((c - 2 ^ 23 : Nat) : Int) = false by
      unfold FP.Core.sumSign
      split
      · rfl
      · exact decide_eq_false (by omega)]
  rcases Nat.eq_or_lt_of_le h1 with z | z
  · have h0 : FP.fsub (mk32 c (-23)) FP.fconst1 = 0 := by rw [hs, ← z]; decide +kernel
    rw [h0, ← z]
    exact ⟨vf32_of (by decide), vf32_of (by decide +kernel), by decide +kernel⟩
  · obtain ⟨a, la, a1, a2⟩ : ∃ a, a ≤ 22 ∧ 2 ^ a ≤ c - 2 ^ 23 ∧ c - 2 ^ 23 < 2 ^ (a + 1) := by
      obtain ⟨a, a1, a2⟩ := lgN (n := c - 2 ^ 23) (by omega)
      have := (Nat.pow_lt_pow_iff_right (a := 2) (m := 23) (n := a) (by decide)).mp (by omega)
      exact ⟨a, by omega, a1, a2⟩
    have hp := pw (c - 2 ^ 23) a (23 - a) a1 a2
    rw [show a + (23 - a) = 23 by omega, show a + 1 + (23 - a) = 24 by omega] at hp
    have h0 : FP.fsub (mk32 c (-23)) FP.fconst1 = mk32 ((c - 2 ^ 23) * 2 ^ (23 - a)) ((a : Int) - 46) := by
      rw [hs]
      show UInt32.ofNat (FP.Core.encode FP.Core.b32 (FP.Core.roundRatio FP.Core.b32 false _ 1 _)) = _
      rw [rr_ex (f := FP.Core.b32) (c := (c - 2 ^ 23) * 2 ^ (23 - a)) (E := (a : Int) - 46) (m := 0) (j := 23 - a) (k := 0) (a := a) rfl hp.1 hp.2 (by decide) (by rw [Nat.pow_zero, Nat.mul_one]) a1 a2 (show a + (23 - a) = 24 - 1 + 0 by omega) (by omega) (show (-149 : Int) ≤ _ by omega) (show _ ≤ (104 : Int) by omega)]
      rfl
    have h3 : FP.fmul (FP.fsub (mk32 c (-23)) FP.fconst1) 1258291200 = mk32 ((c - 2 ^ 23) * 2 ^ (23 - a)) ((a : Int) - 23) := by
      rw [h0]
      show UInt32.ofNat (FP.Core.encode FP.Core.b32 (FP.Core.round FP.Core.b32 (FP.Core.exactProduct (FP.Core.decode FP.Core.b32 (mk32 _ _).toNat) (FP.Core.decode FP.Core.b32 (1258291200 : UInt32).toNat)))) = _
      rw [dec32 hp.1 hp.2 (by omega) (by omega), show FP.Core.decode FP.Core.b32 (1258291200 : UInt32).toNat = .fin false (2 ^ 23) 0 by decide +kernel]
      show UInt32.ofNat (FP.Core.encode FP.Core.b32 (FP.Core.roundRatio FP.Core.b32 false ((c - 2 ^ 23) * 2 ^ (23 - a) * 2 ^ 23) 1 ((a : Int) - 46 + 0))) = _
      rw [rr_ex (f := FP.Core.b32) (c := (c - 2 ^ 23) * 2 ^ (23 - a)) (E := (a : Int) - 23) (m := 0) (j := 0) (k := 23) (a := 46) rfl hp.1 hp.2 (by decide) (by rw [Nat.pow_zero, Nat.mul_one]) (by omega) (by omega) rfl (by omega) (show (-149 : Int) ≤ _ by omega) (show _ ≤ (104 : Int) by omega)]
      rfl
    refine ⟨h0 ▸ vf_mk32 hp.1 hp.2 (by omega) (by omega), h3 ▸ vf_mk32 hp.1 hp.2 (by omega) (by omega), ?_⟩
    rw [h3]
    show FP.Core.toI (FP.Core.decode FP.Core.b32 (mk32 _ _).toNat) = _
    rw [dec32 hp.1 hp.2 (by omega) (by omega)]
    unfold FP.Core.toI FP.Core.toInt FP.Core.truncate FP.Core.signed
    dsimp only
    rw [if_neg (by decide), show ((a : Int) - 23).toNat = 0 by omega, show (-((a : Int) - 23)).toNat = 23 - a by omega, Nat.pow_zero, Nat.mul_one, Nat.mul_div_cancel _ (Nat.two_pow_pos _)]
    rw [show max (-2 ^ 31 : Int) (min (2 ^ 31 - 1) ((c - 2 ^ 23 : Nat) : Int)) = ((c - 2 ^ 23 : Nat) : Int) by omega]
    exact Int32.toInt_inj.mp (by rw [nI_toInt (by omega), Int32.toInt_ofInt_of_le (by omega) (by omega)])
theorem nx_or (a b : Nat) : nI a ||| nI b = nI (a ||| b) := by
  apply Int32.toBitVec_inj.mp
  rw [Int32.toBitVec_or]
  show BitVec.ofNat 32 a ||| BitVec.ofNat 32 b = BitVec.ofNat 32 (a ||| b)
  exact (BitVec.ofNat_or).symm
theorem sh23 : ∀ x, x < 256 → nI x <<< ((23 : Int32) &&& 31) = nI (x * 2 ^ 23) := by decide +kernel
theorem bits_mk (h1 : 2 ^ 23 ≤ c) (h2 : c < 2 ^ 24) (h3 : -149 ≤ e) (h4 : e ≤ 100) : (mk32 c e).toInt32 = (nI (e + 150).toNat <<< ((23 : Int32) &&& 31)) ||| nI (c - 2 ^ 23) := by
  rw [sh23 _ (by omega), nx_or, ← Nat.shiftLeft_eq, ← Nat.shiftLeft_add_eq_or_of_lt (by omega), Nat.shiftLeft_eq]
  have hn := mk32_nat h1 h2 h3 (by omega)
  have e1 : (mk32 c e).toInt32 = nI (mk32 c e).toNat := by
    apply Int32.toBitVec_inj.mp
    show (mk32 c e).toBitVec = BitVec.ofNat 32 (mk32 c e).toNat
    exact BitVec.eq_of_toNat_eq (by rw [BitVec.toNat_ofNat, Nat.mod_eq_of_lt (mk32 c e).toNat_lt]; rfl)
  rw [e1, hn]
  exact congrArg nI (by omega)
end FO

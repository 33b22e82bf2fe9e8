/-! shifts, rests and bits of numbers that are not negative, as the law takes them -/
theorem b_1 : ∀ i, i < 32 → bt 1 i = decide (i = 0) := by decide +kernel
theorem b_nI (a i : Nat) (hi : i < 32) : bt (nI a) i = a.testBit i := by
  show (BitVec.ofNat 32 a).getLsbD i = _
  rw [BitVec.getLsbD_ofNat]
  simp [hi]
theorem b_shr (n : Nat) (hn : n < 32) (x : Int32) {i : Nat} (hi : i < 32) : bt (x >>> (nI n &&& 31)) i = if n + i < 32 then bt x (n + i) else x.toBitVec.msb := by
  unfold bt
  rw [Int32.toBitVec_shiftRight]
  show (x.toBitVec.sshiftRight ((nI n &&& 31).toBitVec.smod 32).toNat).getLsbD i = _
  rw [s_l n hn, BitVec.getLsbD_sshiftRight]
  simp [Nat.not_le.mpr hi]
theorem bit1 (n : Nat) (hn : n < 32) (x : Int32) : (x >>> (nI n &&& 31)) &&& 1 = b2i (bt x n) := by
  refine b_ext (fun i hi => ?_)
  rw [b_and, b_1 i hi]
  by_cases h : i = 0
  · subst h
    rw [b_shr n hn x (by decide), if_pos (by omega), Nat.add_zero]
    cases bt x n <;> decide
  · have : bt (b2i (bt x n)) i = false := by
      cases bt x n
      · exact b_0 i
      · rw [b2i_t, b_1 i hi]; simp [h]
    rw [this]; simp [h]
theorem bit1_set {x : Int32} {m n : Nat} {p : Nat → Bool} (hx : bset x m p) (hn : n < 32) : (x >>> (nI n &&& 31)) &&& 1 = b2i (decide (n < m) && p n) := by
  rw [bit1 n hn, hx n hn]
theorem nI_msb {a : Nat} (h : a < 2 ^ 31) : (nI a).toBitVec.msb = false := by
  show (BitVec.ofNat 32 a).msb = false
  rw [BitVec.msb_eq_getLsbD_last, BitVec.getLsbD_ofNat]
  have : a.testBit 31 = false := Nat.testBit_lt_two_pow h
  simp [this]
theorem nI_shr {a n : Nat} (ha : a < 2 ^ 31) (hn : n < 32) : nI a >>> (nI n &&& 31) = nI (a / 2 ^ n) := by
  refine b_ext (fun i hi => ?_)
  rw [b_shr n hn _ hi, b_nI _ i hi, Nat.testBit_div_two_pow]
  by_cases h : n + i < 32
  · rw [if_pos h, b_nI _ _ h, Nat.add_comm]
  · rw [if_neg h, nI_msb ha]
    have : a < 2 ^ (i + n) := Nat.lt_of_lt_of_le ha (Nat.pow_le_pow_right (by decide) (by omega))
    exact (Nat.testBit_lt_two_pow this).symm
theorem nI_sub {a b : Nat} (h : b ≤ a) : nI a - nI b = nI (a - b) := by
  have h1 : nI (a - b) + nI b = nI a := by rw [nI_add, Nat.sub_add_cancel h]
  rw [← h1, Int32.add_sub_cancel]
theorem nI_rem {a b : Nat} (ha : a < 2 ^ 31) (h0 : 0 < b) (hb : b < 2 ^ 31) : nI a - nI a / nI b * nI b = nI (a % b) := by
  rw [pk_div ha h0 hb, pk_mul, nI_sub (Nat.div_mul_le_self a b)]
  congr 1
  have := Nat.div_add_mod a b
  rw [Nat.mul_comm] at this
  omega
theorem and31 (x : Int32) : ∃ a, a < 2 ^ 31 ∧ x &&& 2147483647 = nI a := by
  refine ⟨(x &&& 2147483647).toBitVec.toNat, ?_, ?_⟩
  · have h : (x &&& 2147483647).toBitVec.msb = false := by
      rw [BitVec.msb_eq_getLsbD_last]
      show bt (x &&& 2147483647) 31 = false
      rw [b_and, show bt 2147483647 31 = false by decide +kernel, Bool.and_false]
    have := BitVec.msb_eq_false_iff_two_mul_lt.mp h
    omega
  · apply Int32.toBitVec_inj.mp
    show _ = BitVec.ofNat 32 _
    apply BitVec.eq_of_toNat_eq
    rw [BitVec.toNat_ofNat, Nat.mod_eq_of_lt (BitVec.isLt _)]
theorem cell_n (Lb : Nat) (xs : Nat → Int32) (v : Int32) : ∃ a, a < 2 ^ 31 ∧ cellV Lb xs v = nI a := and31 _
/-- the bits of a set that lies below 16 -/
theorem bitsV_set {x : Int32} {p : Nat → Bool} {m : Nat} (hm : m ≤ 16) (hx : bset x m p) : bitsV x = nI (nsum (fun k => i01 (p k)) m) := by
  unfold bitsV
  have h1 : ∀ j, m + j = 16 → fsum (fun k => (x >>> (nI k &&& 31)) &&& 1) (m + j) = fsum (fun k => (x >>> (nI k &&& 31)) &&& 1) m := fun j hj => fs_hi j (fun i h1 h2 => by
    rw [bit1_set hx (by omega), decide_eq_false (by omega), Bool.false_and]; rfl)
  have h2 := h1 (16 - m) (by omega)
  rw [show m + (16 - m) = 16 by omega] at h2
  rw [h2, ← fs_nI]
  exact fs_w (fun i hi => by rw [bit1_set hx (by omega), decide_eq_true hi, Bool.true_and])

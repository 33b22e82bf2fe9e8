/-! ===== Int32 by its bits: bt x i ===== -/
def bt (x : Int32) (i : Nat) : Bool := x.toBitVec.getLsbD i
theorem b_ext {x y : Int32} (h : ∀ i, i < 32 → bt x i = bt y i) : x = y := Int32.toBitVec_inj.mp (BitVec.eq_of_getLsbD_eq (fun i hi => h i hi))
theorem b_or (x y : Int32) (i : Nat) : bt (x ||| y) i = (bt x i || bt y i) := by unfold bt; rw [Int32.toBitVec_or, BitVec.getLsbD_or]
theorem b_and (x y : Int32) (i : Nat) : bt (x &&& y) i = (bt x i && bt y i) := by unfold bt; rw [Int32.toBitVec_and, BitVec.getLsbD_and]
theorem b_xor (x y : Int32) (i : Nat) : bt (x ^^^ y) i = (bt x i ^^ bt y i) := by unfold bt; rw [Int32.toBitVec_xor, BitVec.getLsbD_xor]
theorem b_big {x : Int32} {i : Nat} (h : 32 ≤ i) : bt x i = false := BitVec.getLsbD_of_ge _ _ h
theorem b_255 (i : Nat) : bt 255 i = decide (i < 8) := by
  rcases Nat.lt_or_ge i 32 with h | h
  · exact (by decide +kernel : ∀ i, i < 32 → bt 255 i = decide (i < 8)) i h
  · rw [b_big h, decide_eq_false (by omega)]
theorem b_65535 (i : Nat) : bt 65535 i = decide (i < 16) := by
  rcases Nat.lt_or_ge i 32 with h | h
  · exact (by decide +kernel : ∀ i, i < 32 → bt 65535 i = decide (i < 16)) i h
  · rw [b_big h, decide_eq_false (by omega)]
theorem b_m1 : ∀ i, i < 32 → bt (-1) i = true := by decide +kernel
theorem b_0 (i : Nat) : bt 0 i = false := BitVec.getLsbD_zero
theorem s_l : ∀ n, n < 32 → ((nI n &&& 31).toBitVec.smod 32).toNat = n := by decide +kernel
theorem s_u : ∀ n, n < 32 → (((nI n).toUInt32 &&& Int32.toUInt32 31).toBitVec % 32).toNat = n := by decide +kernel
theorem b_shl (n : Nat) (hn : n < 32) (x : Int32) {i : Nat} (hi : i < 32) : bt (x <<< (nI n &&& 31)) i = (decide (n ≤ i) && bt x (i - n)) := by
  unfold bt
  rw [Int32.toBitVec_shiftLeft]
  show (x.toBitVec <<< ((nI n &&& 31).toBitVec.smod 32).toNat).getLsbD i = _
  rw [s_l n hn, BitVec.getLsbD_shiftLeft]
  rcases Nat.lt_or_ge i n with h | h
  · simp [h, Nat.not_le.mpr h]
  · simp [hi, h, Nat.not_lt.mpr h]
theorem b_ushr (n : Nat) (hn : n < 32) (x : Int32) (i : Nat) : bt ((x.toUInt32 >>> ((nI n).toUInt32 &&& Int32.toUInt32 31)).toInt32) i = bt x (n + i) := by
  show (x.toUInt32 >>> ((nI n).toUInt32 &&& Int32.toUInt32 31)).toBitVec.getLsbD i = x.toUInt32.toBitVec.getLsbD (n + i)
  rw [UInt32.toBitVec_shiftRight]
  show (x.toUInt32.toBitVec >>> (((nI n).toUInt32 &&& Int32.toUInt32 31).toBitVec % 32).toNat).getLsbD i = _
  rw [s_u n hn, BitVec.getLsbD_ushiftRight]
/-! ===== nI under and, xor, >>>, one bit, 65535 ===== -/
theorem nx_and (a b : Nat) : nI a &&& nI b = nI (a &&& b) := by
  apply Int32.toBitVec_inj.1
  show BitVec.ofNat 32 a &&& BitVec.ofNat 32 b = BitVec.ofNat 32 (a &&& b)
  apply BitVec.eq_of_getLsbD_eq
  intro i hi
  simp [hi]
theorem nx_xor (a b : Nat) : nI a ^^^ nI b = nI (a ^^^ b) := by
  apply Int32.toBitVec_inj.1
  show BitVec.ofNat 32 a ^^^ BitVec.ofNat 32 b = BitVec.ofNat 32 (a ^^^ b)
  apply BitVec.eq_of_getLsbD_eq
  intro i hi
  simp [hi]
theorem nx_cnt : ∀ j : Fin 32, (UInt32.ofNat j.val &&& Int32.toUInt32 31).toNat % 32 = j.val := by decide +kernel

/-! sets of numbers below n as the bits of an int -/
def bset (x : Int32) (n : Nat) (p : Nat → Bool) : Prop := ∀ i, i < 32 → bt x i = (decide (i < n) && p i)
theorem bt_one : ∀ k, k < 32 → ∀ i, i < 32 → bt ((1 : Int32) <<< (nI k &&& 31)) i = decide (i = k) := by decide +kernel
theorem bt_full : ∀ n, n < 17 → ∀ i, i < 32 → bt (((1 : Int32) <<< (nI n &&& 31)) - 1) i = decide (i < n) := by decide +kernel
theorem bs_ext {x y : Int32} {n : Nat} {p q : Nat → Bool} (hx : bset x n p) (hy : bset y n q) (h : ∀ i, i < n → p i = q i) : x = y := b_ext (fun i hi => by
  rw [hx i hi, hy i hi]
  by_cases hn : i < n
  · rw [h i hn]
  · simp [hn])
theorem bs_w {x : Int32} {n : Nat} {p q : Nat → Bool} (hx : bset x n p) (h : ∀ i, i < n → p i = q i) : bset x n q := fun i hi => by
  rw [hx i hi]
  by_cases hn : i < n
  · rw [h i hn]
  · simp [hn]
theorem bs_0 (n : Nat) : bset 0 n (fun _ => false) := fun i _ => by rw [b_0]; simp
theorem bs_test {x : Int32} {n k : Nat} {p : Nat → Bool} (hx : bset x n p) (hk : k < n) (hn : n ≤ 32) : x &&& ((1 : Int32) <<< (nI k &&& 31)) = 0 ↔ p k = false := by
  constructor
  · intro h
    have h1 : bt (x &&& ((1 : Int32) <<< (nI k &&& 31))) k = false := by rw [h, b_0]
    rw [b_and, bt_one k (by omega) k (by omega), hx k (by omega)] at h1
    simpa [hk] using h1
  · intro h
    refine b_ext (fun i hi => ?_)
    rw [b_and, bt_one k (by omega) i hi, hx i hi, b_0]
    by_cases hik : i = k
    · subst hik; simp [h]
    · simp [hik]
theorem bs_put {x : Int32} {n k : Nat} {p : Nat → Bool} (hx : bset x n p) (hk : k < n) (hn : n ≤ 32) : bset (x ||| ((1 : Int32) <<< (nI k &&& 31))) n (fun j => if j = k then true else p j) := fun i hi => by
  rw [b_or, bt_one k (by omega) i hi, hx i hi]
  by_cases hik : i = k
  · subst hik; simp [hk]
  · simp [hik]
theorem bs_del {x : Int32} {n k : Nat} {p : Nat → Bool} (hx : bset x n p) (hk : k < n) (hn : n ≤ 32) : bset (x &&& (((1 : Int32) <<< (nI k &&& 31)) ^^^ (-1))) n (fun j => if j = k then false else p j) := fun i hi => by
  rw [b_and, b_xor, bt_one k (by omega) i hi, b_m1 i hi, hx i hi]
  by_cases hik : i = k
  · subst hik; simp
  · simp [hik]
theorem bs_minus {x : Int32} {n m : Nat} {p : Nat → Bool} (hx : bset x m p) (hn : n ≤ m) (hm : m < 17) : bset ((((1 : Int32) <<< (nI n &&& 31)) - 1) &&& (x ^^^ (-1))) n (fun j => !p j) := fun i hi => by
  rw [b_and, b_xor, bt_full n (by omega) i hi, b_m1 i hi, hx i hi]
  by_cases hin : i < n
  · simp [hin, show i < m by omega]
  · simp [hin]
def b2i (b : Bool) : Int32 := if b then 1 else 0
theorem b2i_01 (b : Bool) : b2i b = 0 ∨ b2i b = 1 := by cases b <;> simp [b2i]
theorem b2i_t : b2i true = 1 := rfl
theorem b2i_f : b2i false = 0 := rfl
/-! numbers -/
theorem lit (a n : Nat) : nI a + (OfNat.ofNat n : Int32) = nI (a + n) := nI_add a n
theorem m5_ne (k : Nat) (h : k < 2 ^ 31) : ¬ (nI k = -5) := by
  intro e
  have h1 := nI_toInt h
  rw [e] at h1
  have h2 : (-5 : Int32).toInt = -5 := by decide
  omega
theorem d_ix (k : Nat) : 40 + 8 * nI k = nI (40 + 8 * k) := by
  show nI 40 + nI 8 * nI k = _
  rw [pk_mul, nI_add]
theorem t_ix (k : Nat) : 4 + 3 * nI k = nI (4 + 3 * k) := by
  show nI 4 + nI 3 * nI k = _
  rw [pk_mul, nI_add]
theorem z_clamp : (0 : Int32).toNatClampNeg = 0 := by decide
theorem o_clamp : (1 : Int32).toNatClampNeg = 1 := by decide
theorem dvp {k j : Nat} (hk : k < 16) (hj : j < 8) : vp_in (nI (40 + 8 * k) + (OfNat.ofNat j : Int32)) 168 := by rw [lit]; exact vp_in_nI (by omega) (by decide)
theorem dcl {k j : Nat} (hk : k < 16) (hj : j < 8) : (nI (40 + 8 * k) + (OfNat.ofNat j : Int32)).toNatClampNeg = 40 + 8 * k + j := by rw [lit]; exact nI_clamp (by omega)
theorem tvp {k j : Nat} (hk : k < 12) (hj : j < 3) : vp_in (nI (4 + 3 * k) + (OfNat.ofNat j : Int32)) 168 := by rw [lit]; exact vp_in_nI (by omega) (by decide)
theorem tcl {k j : Nat} (hk : k < 12) (hj : j < 3) : (nI (4 + 3 * k) + (OfNat.ofNat j : Int32)).toNatClampNeg = 4 + 3 * k + j := by rw [lit]; exact nI_clamp (by omega)
theorem kcl {k : Nat} (h : k < 16) : (nI k).toNatClampNeg = k := nI_clamp (by omega)
theorem kvp {k n : Nat} (h : k < n) (hn : n ≤ 168) : vp_in (nI k) n := vp_in_nI h (by omega)

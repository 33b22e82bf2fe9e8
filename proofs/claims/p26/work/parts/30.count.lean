/-! Integer.bitCount of a set -/
theorem u_nI (x : UInt32) : x.toInt32 = nI x.toNat := by
  apply Int32.toBitVec_inj.mp
  show x.toBitVec = BitVec.ofNat 32 x.toNat
  exact BitVec.eq_of_toNat_eq (by rw [BitVec.toNat_ofNat, Nat.mod_eq_of_lt x.toNat_lt]; rfl)
theorem nI_u {j : Nat} (h : j < 2 ^ 32) : (nI j).toUInt32.toNat = j := by
  show (BitVec.ofNat 32 j).toNat = j
  rw [BitVec.toNat_ofNat, Nat.mod_eq_of_lt h]
theorem ush {j s : Nat} {y : UInt32} (h : j < 2 ^ 32) (hy : y.toNat % 32 = s) : ((nI j).toUInt32 >>> y).toInt32 = nI (j / 2 ^ s) := by
  rw [u_nI, UInt32.toNat_shiftRight, nI_u h, hy, Nat.shiftRight_eq_div_pow]
theorem nI_sub' {a b : Nat} (h : b ≤ a) : nI a - nI b = nI (a - b) := by
  have : nI a = nI (a - b) + nI b := by rw [nI_add, Nat.sub_add_cancel h]
  rw [this, Int32.add_sub_cancel]
def bc1 (j : Nat) : Nat := j - ((j / 2 ^ 1) &&& 1431655765)
def bc2 (x : Nat) : Nat := (x &&& 858993459) + ((x / 2 ^ 2) &&& 858993459)
def bc3 (w : Nat) : Nat := (w + w / 2 ^ 4) &&& 252645135
def bc4 (y : Nat) : Nat := y + y / 2 ^ 8
def bc5 (w : Nat) : Nat := (w + w / 2 ^ 16) &&& 63
def bcN (j : Nat) : Nat → Nat
  | 0 => 0
  | m + 1 => bcN j m + j / 2 ^ m % 2
theorem and_sp {a b m k : Nat} (hb : b < 256) (hk : k < 256) : (256 * a + b) &&& (256 * m + k) = 256 * (a &&& m) + (b &&& k) := by
  have h1 := Nat.and_div_two_pow (a := 256 * a + b) (b := 256 * m + k) (n := 8)
  have h2 := Nat.and_mod_two_pow (a := 256 * a + b) (b := 256 * m + k) (n := 8)
  rw [show (256 * a + b) / 2 ^ 8 = a by omega, show (256 * m + k) / 2 ^ 8 = m by omega] at h1
  rw [show (256 * a + b) % 2 ^ 8 = b by omega, show (256 * m + k) % 2 ^ 8 = k by omega] at h2
  have h3 := Nat.div_add_mod ((256 * a + b) &&& (256 * m + k)) (2 ^ 8)
  rw [h1, h2] at h3
  exact h3.symm
def B1 (x : Nat) : Nat := x - ((x / 2) &&& 85)
def B2 (x : Nat) : Nat := (x &&& 51) + ((x / 4) &&& 51)
def B3 (x : Nat) : Nat := (x + x / 16) &&& 15
theorem B1_l : ∀ r, r < 2 → ∀ l, l < 256 → (128 * r + l / 2) &&& 85 = (l / 2) &&& 85 := by decide +kernel
theorem B1_h : ∀ h, h < 256 → (h / 2) &&& 5592405 = (h / 2) &&& 85 := by decide +kernel
theorem B2_l : ∀ r, r < 4 → ∀ l, l < 256 → (64 * r + l / 4) &&& 51 = (l / 4) &&& 51 := by decide +kernel
theorem B2_h : ∀ h, h < 256 → (h / 4) &&& 3355443 = (h / 4) &&& 51 := by decide +kernel
theorem B2_h0 : ∀ h, h < 256 → h &&& 3355443 = h &&& 51 := by decide +kernel
theorem B3_l : ∀ r, r < 5 → ∀ l, l < 69 → (16 * r + l + l / 16) &&& 15 = (l + l / 16) &&& 15 := by decide +kernel
theorem B3_h : ∀ h, h < 69 → (h + h / 16) &&& 986895 = (h + h / 16) &&& 15 := by decide +kernel
theorem B1_lt : ∀ l, l < 256 → B1 l < 256 := by decide +kernel
theorem B2_lt : ∀ l, l < 256 → B2 (B1 l) < 69 ∧ B2 (B1 l) % 16 < 5 := by decide +kernel
theorem B3_ok : ∀ l, l < 256 → B3 (B2 (B1 l)) = bcN l 8 ∧ bcN l 8 < 9 := by decide +kernel
theorem B5_ok : ∀ x, x < 9 → ∀ y, y < 9 → (256 * x + (x + y)) &&& 63 = x + y := by decide +kernel
theorem bc_ok {j : Nat} (h : j < 65536) : bc5 (bc4 (bc3 (bc2 (bc1 j)))) = bcN j 16 := by
  obtain ⟨x, y, hx, hy, rfl⟩ : ∃ x y, x < 256 ∧ y < 256 ∧ j = 256 * x + y := ⟨j / 256, j % 256, by omega, by omega, by omega⟩
  have e1 : bc1 (256 * x + y) = 256 * B1 x + B1 y := by
    unfold bc1 B1
    rw [show (256 * x + y) / 2 ^ 1 = 256 * (x / 2) + (128 * (x % 2) + y / 2) by omega, show (1431655765 : Nat) = 256 * 5592405 + 85 from rfl, and_sp (by omega) (by decide), B1_l _ (by omega) y hy, B1_h x hx]
    have h1 : (x / 2) &&& 85 ≤ x / 2 := Nat.and_le_left
    have h2 : (y / 2) &&& 85 ≤ y / 2 := Nat.and_le_left
    omega
  have l1 := B1_lt x hx
  have l2 := B1_lt y hy
  have e2 : bc2 (256 * B1 x + B1 y) = 256 * B2 (B1 x) + B2 (B1 y) := by
    generalize B1 x = u at l1
    generalize B1 y = v at l2
    unfold bc2 B2
    rw [show (256 * u + v) / 2 ^ 2 = 256 * (u / 4) + (64 * (u % 4) + v / 4) by omega, show (858993459 : Nat) = 256 * 3355443 + 51 from rfl, and_sp l2 (by decide), and_sp (by omega) (by decide), B2_l _ (by omega) v l2, B2_h u l1, B2_h0 u l1]
    omega
  obtain ⟨m1, m2⟩ := B2_lt x hx
  obtain ⟨m3, m4⟩ := B2_lt y hy
  have e3 : bc3 (256 * B2 (B1 x) + B2 (B1 y)) = 256 * B3 (B2 (B1 x)) + B3 (B2 (B1 y)) := by
    generalize B2 (B1 x) = u at m1 m2
    generalize B2 (B1 y) = v at m3 m4
    unfold bc3 B3
    rw [show 256 * u + v + (256 * u + v) / 2 ^ 4 = 256 * (u + u / 16) + (16 * (u % 16) + v + v / 16) by omega, show (252645135 : Nat) = 256 * 986895 + 15 from rfl, and_sp (by omega) (by decide), B3_l _ m2 v m3, B3_h u m1]
  obtain ⟨n1, n2⟩ := B3_ok x hx
  obtain ⟨n3, n4⟩ := B3_ok y hy
  have e6 : bcN (256 * x + y) 16 = bcN x 8 + bcN y 8 := by
    simp only [bcN]
    rw [show (256 * x + y) / 2 ^ 0 % 2 = y / 2 ^ 0 % 2 by omega, show (256 * x + y) / 2 ^ 1 % 2 = y / 2 ^ 1 % 2 by omega, show (256 * x + y) / 2 ^ 2 % 2 = y / 2 ^ 2 % 2 by omega, show (256 * x + y) / 2 ^ 3 % 2 = y / 2 ^ 3 % 2 by omega, show (256 * x + y) / 2 ^ 4 % 2 = y / 2 ^ 4 % 2 by omega, show (256 * x + y) / 2 ^ 5 % 2 = y / 2 ^ 5 % 2 by omega, show (256 * x + y) / 2 ^ 6 % 2 = y / 2 ^ 6 % 2 by omega, show (256 * x + y) / 2 ^ 7 % 2 = y / 2 ^ 7 % 2 by omega]
    rw [show (256 * x + y) / 2 ^ 8 = x / 2 ^ 0 by omega, show (256 * x + y) / 2 ^ 9 = x / 2 ^ 1 by omega, show (256 * x + y) / 2 ^ 10 = x / 2 ^ 2 by omega, show (256 * x + y) / 2 ^ 11 = x / 2 ^ 3 by omega, show (256 * x + y) / 2 ^ 12 = x / 2 ^ 4 by omega, show (256 * x + y) / 2 ^ 13 = x / 2 ^ 5 by omega, show (256 * x + y) / 2 ^ 14 = x / 2 ^ 6 by omega, show (256 * x + y) / 2 ^ 15 = x / 2 ^ 7 by omega]
    generalize x / 2 ^ 0 % 2 = x0, x / 2 ^ 1 % 2 = x1, x / 2 ^ 2 % 2 = x2, x / 2 ^ 3 % 2 = x3, x / 2 ^ 4 % 2 = x4, x / 2 ^ 5 % 2 = x5, x / 2 ^ 6 % 2 = x6, x / 2 ^ 7 % 2 = x7
    generalize y / 2 ^ 0 % 2 = y0, y / 2 ^ 1 % 2 = y1, y / 2 ^ 2 % 2 = y2, y / 2 ^ 3 % 2 = y3, y / 2 ^ 4 % 2 = y4, y / 2 ^ 5 % 2 = y5, y / 2 ^ 6 % 2 = y6, y / 2 ^ 7 % 2 = y7
    omega
  rw [e1, e2, e3, n1, n3, e6]
  generalize bcN x 8 = u at n2
  generalize bcN y 8 = v at n4
  have e4 : bc4 (256 * u + v) = 256 * u + (u + v) := by unfold bc4; omega
  rw [e4]
  unfold bc5
  rw [show (256 * u + (u + v)) / 2 ^ 16 = 0 by omega, Nat.add_zero]
  exact B5_ok u n2 v n4
section BC
variable {d : Nat} {M : Im} {h : Hm} {D : Dm} {Q : Int32 → Im → Hm → Dm → Prop}
theorem t_bc {j : Nat} (hj : j < 65536) (hQ : Q (nI (bcN j 16)) M h D) : CI (d + 1) nJ6_bitCount_0f7a4 [.int (nI j)] M h D Q := by
  have l1 : bc1 j ≤ 65535 := by unfold bc1; omega
  have l2 : bc2 (bc1 j) ≤ 131070 := by
    unfold bc2
    have h1 : bc1 j &&& 858993459 ≤ bc1 j := Nat.and_le_left
    have h2 : (bc1 j / 2 ^ 2) &&& 858993459 ≤ bc1 j / 2 ^ 2 := Nat.and_le_left
    omega
  have l3 : bc3 (bc2 (bc1 j)) ≤ 262140 := by
    unfold bc3
    have h1 : (bc2 (bc1 j) + bc2 (bc1 j) / 2 ^ 4) &&& 252645135 ≤ bc2 (bc1 j) + bc2 (bc1 j) / 2 ^ 4 := Nat.and_le_left
    omega
  have l4 : bc4 (bc3 (bc2 (bc1 j))) ≤ 524280 := by unfold bc4; omega
  have e1 : nI j - ((((nI j).toUInt32 >>> ((1 : Int32).toUInt32 &&& Int32.toUInt32 31)).toInt32) &&& 1431655765) = nI (bc1 j) := by
    rw [ush (s := 1) (by omega) (by decide), show (1431655765 : Int32) = nI 1431655765 from rfl, nx_and, nI_sub' (Nat.le_trans Nat.and_le_left (Nat.div_le_self _ _))]
    rfl
  have e2 : ∀ x, x ≤ 65535 → ((nI x &&& 858993459) + (((nI x).toUInt32 >>> ((2 : Int32).toUInt32 &&& Int32.toUInt32 31)).toInt32 &&& 858993459)) = nI (bc2 x) := fun x hx => by
    rw [ush (s := 2) (by omega) (by decide), show (858993459 : Int32) = nI 858993459 from rfl, nx_and, nx_and, nI_add]
    rfl
  have e3 : ∀ x, x ≤ 131070 → ((nI x + ((nI x).toUInt32 >>> ((4 : Int32).toUInt32 &&& Int32.toUInt32 31)).toInt32) &&& 252645135) = nI (bc3 x) := fun x hx => by
    rw [ush (s := 4) (by omega) (by decide), nI_add, show (252645135 : Int32) = nI 252645135 from rfl, nx_and]
    rfl
  have e4 : ∀ x, x ≤ 262140 → (nI x + ((nI x).toUInt32 >>> ((8 : Int32).toUInt32 &&& Int32.toUInt32 31)).toInt32) = nI (bc4 x) := fun x hx => by
    rw [ush (s := 8) (by omega) (by decide), nI_add]
    rfl
  have e5 : ∀ x, x ≤ 524280 → ((nI x + ((nI x).toUInt32 >>> ((16 : Int32).toUInt32 &&& Int32.toUInt32 31)).toInt32) &&& 63) = nI (bc5 x) := fun x hx => by
    rw [ush (s := 16) (by omega) (by decide), nI_add, show (63 : Int32) = nI 63 from rfl, nx_and]
    rfl
  refine ci_of rfl rfl (R_J6_bitCount_0f7a4_0 (fun w1 h1 w2 h2 => ?_))
  rw [e1, e2 _ l1] at h1
  rw [h1, e3 _ l2, e4 _ l3] at h2
  rw [h2, e5 _ l4, bc_ok hj]
  exact hQ
theorem bs_nat {x : Int32} {m : Nat} {p : Nat → Bool} (hx : bset x m p) (hm : m ≤ 16) : ∃ j, j < 65536 ∧ x = nI j ∧ ∀ i, i < 16 → (j / 2 ^ i % 2 = if (decide (i < m) && p i) = true then 1 else 0) := by
  refine ⟨x.toBitVec.toNat, ?_, ?_, fun i hi => ?_⟩
  · refine Nat.lt_pow_two_of_testBit (n := 16) _ (fun i hi => ?_)
    by_cases h32 : i < 32
    · have := hx i h32
      unfold bt at this
      rw [decide_eq_false (by omega), Bool.false_and] at this
      exact this
    · exact b_big (x := x) (by omega)
  · apply Int32.toBitVec_inj.mp
    show x.toBitVec = BitVec.ofNat 32 x.toBitVec.toNat
    rw [BitVec.ofNat_toNat, BitVec.setWidth_eq]
  · have h1 := hx i (by omega)
    unfold bt BitVec.getLsbD at h1
    rw [← h1, Nat.testBit_eq_decide_div_mod_eq]
    by_cases e : x.toBitVec.toNat / 2 ^ i % 2 = 1
    · rw [e]; rfl
    · rw [decide_eq_false e, if_neg (by decide)]; omega
theorem fs_bc {j m : Nat} {p : Nat → Bool} (hp : ∀ i, i < 16 → (j / 2 ^ i % 2 = if (decide (i < m) && p i) = true then 1 else 0)) : ∀ k, k ≤ m → m ≤ 16 → fsum (fun i => b2i (p i)) k = nI (bcN j k)
  | 0, _, _ => rfl
  | k + 1, h1, h2 => by
    rw [fsum, bcN, fs_bc hp k (by omega) h2, hp k (by omega), decide_eq_true (by omega), Bool.true_and, ← nI_add]
    cases p k <;> rfl
theorem bc_hi {j m : Nat} {p : Nat → Bool} (hp : ∀ i, i < 16 → (j / 2 ^ i % 2 = if (decide (i < m) && p i) = true then 1 else 0)) : ∀ k, m + k ≤ 16 → bcN j (m + k) = bcN j m
  | 0, _ => rfl
  | k + 1, h1 => by
    rw [← Nat.add_assoc, bcN, bc_hi hp k (by omega), hp (m + k) (by omega), decide_eq_false (by omega), Bool.false_and]
    rfl
/-- how many a set has -/
theorem t_bitCount {x : Int32} {m : Nat} {p : Nat → Bool} (hx : bset x m p) (hm : m ≤ 16) (hQ : Q (fsum (fun i => b2i (p i)) m) M h D) : CI (d + 1) nJ6_bitCount_0f7a4 [.int x] M h D Q := by
  obtain ⟨j, hj, rfl, hp⟩ := bs_nat hx hm
  refine t_bc hj ?_
  rw [fs_bc hp m (Nat.le_refl _) hm] at hQ
  have := bc_hi hp (16 - m) (by omega)
  rw [show m + (16 - m) = 16 by omega] at this
  rw [this]; exact hQ
end BC
theorem fs_w {f g : Nat → Int32} : ∀ {m : Nat}, (∀ i, i < m → f i = g i) → fsum f m = fsum g m
  | 0, _ => rfl
  | m + 1, h => by rw [fsum, fsum, fs_w (fun i hi => h i (by omega)), h m (by omega)]
/-- zeros behind m -/
theorem fs_hi {f : Nat → Int32} {m : Nat} : ∀ k, (∀ i, m ≤ i → i < m + k → f i = 0) → fsum f (m + k) = fsum f m
  | 0, _ => rfl
  | k + 1, h => by
    rw [← Nat.add_assoc, fsum, fs_hi k (fun i h1 h2 => h i h1 (by omega)), h (m + k) (by omega) (by omega)]
    exact Int32.add_zero _

/-! minutes: q quarters as a double and a float -/
def dq (q : Nat) : UInt64 := FP.ddiv (FP.i2d (nI q)) 4616189618054758400
theorem pw (q L j : Nat) (h1 : 2 ^ L ≤ q) (h2 : q < 2 ^ (L + 1)) : 2 ^ (L + j) ≤ q * 2 ^ j ∧ q * 2 ^ j < 2 ^ (L + 1 + j) := by
  rw [Nat.pow_add, Nat.pow_add (m := L + 1)]
  exact ⟨Nat.mul_le_mul_right _ h1, Nat.mul_lt_mul_of_pos_right h2 (Nat.two_pow_pos _)⟩
theorem pw52 {q L : Nat} (h1 : 2 ^ L ≤ q) (h2 : q < 2 ^ (L + 1)) (hL : L ≤ 20) : 2 ^ 52 ≤ q * 2 ^ (52 - L) ∧ q * 2 ^ (52 - L) < 2 ^ 53 := by
  have h := pw q L (52 - L) h1 h2
  rw [show L + (52 - L) = 52 by omega, show L + 1 + (52 - L) = 53 by omega] at h
  exact h
theorem pw23 {q L : Nat} (h1 : 2 ^ L ≤ q) (h2 : q < 2 ^ (L + 1)) (hL : L ≤ 20) : 2 ^ 23 ≤ q * 2 ^ (23 - L) ∧ q * 2 ^ (23 - L) < 2 ^ 24 := by
  have h := pw q L (23 - L) h1 h2
  rw [show L + (23 - L) = 23 by omega, show L + 1 + (23 - L) = 24 by omega] at h
  exact h
theorem dq_mk {q L : Nat} (h1 : 2 ^ L ≤ q) (h2 : q < 2 ^ (L + 1)) (hL : L ≤ 20) : dq q = mk64 (q * 2 ^ (52 - L)) ((L : Int) - 54) := by
  obtain ⟨c1, c2⟩ := pw52 h1 h2 hL
  have hq : q < 2 ^ 21 := Nat.lt_of_lt_of_le h2 (Nat.pow_le_pow_right (by decide) (by omega))
  have e1 : FP.i2d (nI q) = mk64 (q * 2 ^ (52 - L)) ((L : Int) - 52) := by
    show UInt64.ofNat (FP.Core.encode FP.Core.b64 (FP.Core.round FP.Core.b64 (FP.Core.ofInt (nI q).toInt))) = _
    rw [nI_toInt (by omega)]
    unfold FP.Core.ofInt
    rw [decide_eq_false (show ¬ ((q : Int) < 0) by omega), Int.natAbs_natCast]
    show UInt64.ofNat (FP.Core.encode FP.Core.b64 (FP.Core.roundRatio FP.Core.b64 false q 1 0)) = _
    rw [rr_ex (f := FP.Core.b64) (c := q * 2 ^ (52 - L)) (E := (L : Int) - 52) (m := 0) (j := 52 - L) (k := 0) (a := L) rfl c1 c2 (by decide) (by rw [Nat.pow_zero, Nat.mul_one]) h1 h2 (show L + (52 - L) = 53 - 1 + 0 by omega) (by omega) (show (-1074 : Int) ≤ _ by omega) (show _ ≤ (971 : Int) by omega)]
    rfl
  unfold dq
  rw [e1]
  show UInt64.ofNat (FP.Core.encode FP.Core.b64 (FP.Core.quotient FP.Core.b64 (FP.Core.decode FP.Core.b64 (mk64 (q * 2 ^ (52 - L)) ((L : Int) - 52)).toNat) (FP.Core.decode FP.Core.b64 (4616189618054758400 : UInt64).toNat))) = _
  rw [dec64 c1 c2 (by omega) (by omega), show FP.Core.decode FP.Core.b64 (4616189618054758400 : UInt64).toNat = .fin false (2 ^ 52) (-50) by decide +kernel]
  unfold FP.Core.quotient
  dsimp only
  rw [if_neg (by decide)]
  show UInt64.ofNat (FP.Core.encode FP.Core.b64 (FP.Core.roundRatio FP.Core.b64 false _ _ _)) = _
  rw [rr_ex (f := FP.Core.b64) (c := q * 2 ^ (52 - L)) (E := (L : Int) - 54) (m := 52) (j := 0) (k := 0) (a := 52) rfl c1 c2 (by decide) rfl c1 c2 rfl (by omega) (show (-1074 : Int) ≤ _ by omega) (show _ ≤ (971 : Int) by omega)]
  rfl
theorem lgq {q : Nat} (h : 0 < q) (h2 : q < 2 ^ 20) : ∃ L, L ≤ 20 ∧ 2 ^ L ≤ q ∧ q < 2 ^ (L + 1) := by
  refine ⟨q.log2, ?_, Nat.log2_self_le (by omega), Nat.lt_log2_self⟩
  have h3 : 2 ^ q.log2 ≤ q := Nat.log2_self_le (by omega)
  have := (Nat.pow_lt_pow_iff_right (a := 2) (m := 20) (n := q.log2) (by decide)).mp (by omega)
  omega
theorem dq_0 : dq 0 = 0 := by decide +kernel
theorem dadd_mk {q w : Nat} (hq : 0 < q) (hw : 0 < w) (h : q + w < 2 ^ 20) : FP.dadd (dq q) (dq w) = dq (q + w) := by
  obtain ⟨L1, l1, a1, a2⟩ := lgq hq (by omega)
  obtain ⟨L2, l2, b1, b2⟩ := lgq hw (by omega)
  obtain ⟨L3, l3, c1, c2⟩ := lgq (q := q + w) (by omega) h
  rw [dq_mk a1 a2 l1, dq_mk b1 b2 l2, dq_mk c1 c2 l3]
  obtain ⟨p1, p2⟩ := pw52 a1 a2 l1
  obtain ⟨r1, r2⟩ := pw52 b1 b2 l2
  obtain ⟨s1, s2⟩ := pw52 c1 c2 l3
  show UInt64.ofNat (FP.Core.encode FP.Core.b64 (FP.Core.round FP.Core.b64 (FP.Core.exactSum (FP.Core.decode FP.Core.b64 (mk64 _ _).toNat) (FP.Core.decode FP.Core.b64 (mk64 _ _).toNat)))) = _
  rw [dec64 p1 p2 (by omega) (by omega), dec64 r1 r2 (by omega) (by omega)]
  have hm : (min ((L1 : Int) - 54) ((L2 : Int) - 54)) = (min L1 L2 : Nat) - 54 := by omega
  have hm1 : min L1 L2 ≤ L1 := Nat.min_le_left _ _
  have hm2 : min L1 L2 ≤ L2 := Nat.min_le_right _ _
  have hm3 : min L1 L2 ≤ L3 := by
    rcases Nat.le_total L1 L2 with z | z
    · have : L1 < L3 + 1 := (Nat.pow_lt_pow_iff_right (a := 2) (by decide)).mp (by omega)
      omega
    · have : L2 < L3 + 1 := (Nat.pow_lt_pow_iff_right (a := 2) (by decide)).mp (by omega)
      omega
  generalize min L1 L2 = m at hm hm1 hm2 hm3
  have hs : FP.Core.sumUnits false (q * 2 ^ (52 - L1)) ((L1 : Int) - 54) false (w * 2 ^ (52 - L2)) ((L2 : Int) - 54) ((m : Int) - 54) = (((q + w) * 2 ^ (52 - m) : Nat) : Int) := by
    unfold FP.Core.sumUnits FP.Core.signed FP.Core.inUnits
    rw [if_neg (by decide), if_neg (by decide), show ((L1 : Int) - 54 - ((m : Int) - 54)).toNat = L1 - m by omega, show ((L2 : Int) - 54 - ((m : Int) - 54)).toNat = L2 - m by omega]
    rw [Nat.mul_assoc, Nat.mul_assoc, ← Nat.pow_add, ← Nat.pow_add, show 52 - L1 + (L1 - m) = 52 - m by omega, show 52 - L2 + (L2 - m) = 52 - m by omega, Nat.add_mul]
    rfl
  unfold FP.Core.exactSum
  dsimp only
  rw [hm, hs, Int.natAbs_natCast]
  have hg : FP.Core.sumSign false false (((q + w) * 2 ^ (52 - m) : Nat) : Int) = false := by
    unfold FP.Core.sumSign
    split
    · rfl
    · exact decide_eq_false (by omega)
  rw [hg]
  show UInt64.ofNat (FP.Core.encode FP.Core.b64 (FP.Core.roundRatio FP.Core.b64 false _ 1 _)) = _
  have hA := pw (q + w) L3 (52 - m) c1 c2
  rw [rr_ex (f := FP.Core.b64) (c := (q + w) * 2 ^ (52 - L3)) (E := (L3 : Int) - 54) (m := 0) (j := 0) (k := L3 - m) (a := L3 + (52 - m)) rfl s1 s2 (by decide) (by rw [Nat.pow_zero, Nat.mul_one, Nat.mul_assoc, ← Nat.pow_add]; congr 2; omega) hA.1 (by rw [show L3 + (52 - m) + 1 = L3 + 1 + (52 - m) by omega]; exact hA.2) (show L3 + (52 - m) + 0 = 53 - 1 + (L3 - m) by omega) (by omega) (show (-1074 : Int) ≤ _ by omega) (show _ ≤ (971 : Int) by omega)]
  rfl
theorem dadd_0 : ∀ w, w < 14 → FP.dadd (dq 0) (dq w) = dq w := by decide +kernel
theorem dq_add {q w : Nat} (hw : 0 < w) (hw2 : w < 14) (h : q < 2 ^ 19) : FP.dadd (dq q) (dq w) = dq (q + w) := by
  rcases Nat.eq_zero_or_pos q with rfl | hq
  · rw [dadd_0 w hw2, Nat.zero_add]
  · exact dadd_mk hq hw (by omega)
theorem dq_turn : ∀ s, s < 10 → FP.dadd FP.dconst1 (dq s) = dq (4 + s) := by decide +kernel
theorem dq_1 : (4598175219545276416 : UInt64) = dq 1 := by decide +kernel
theorem dq_10 : (4612811918334230528 : UInt64) = dq 10 := by decide +kernel
theorem dq_12 : (4613937818241073152 : UInt64) = dq 12 := by decide +kernel
theorem vf64_of {x : UInt64} (h : x.toNat ≤ 9218868437227405312) : vf_n64 x := by
  unfold vf_n64
  rw [UInt64.le_iff_toNat_le, UInt64.toNat_and]
  exact Nat.le_trans Nat.and_le_left h
theorem vf32_of {x : UInt32} (h : x.toNat ≤ 2139095040) : vf_n32 x := by
  unfold vf_n32
  rw [UInt32.le_iff_toNat_le, UInt32.toNat_and]
  exact Nat.le_trans Nat.and_le_left h
theorem vf_mk64 {c : Nat} {E : Int} (h1 : 2 ^ 52 ≤ c) (h2 : c < 2 ^ 53) (h3 : -1074 ≤ E) (h4 : E ≤ 900) : vf_n64 (mk64 c E) := vf64_of (by rw [mk64_nat h1 h2 h3 (by omega)]; omega)
theorem vf_mk32 {c : Nat} {E : Int} (h1 : 2 ^ 23 ≤ c) (h2 : c < 2 ^ 24) (h3 : -149 ≤ E) (h4 : E ≤ 100) : vf_n32 (mk32 c E) := vf32_of (by rw [mk32_nat h1 h2 h3 (by omega)]; omega)
theorem vf_dq {q : Nat} (h : q < 2 ^ 20) : vf_n64 (dq q) := by
  rcases Nat.eq_zero_or_pos q with rfl | hq
  · rw [dq_0]; exact vf64_of (by decide)
  · obtain ⟨L, l, a1, a2⟩ := lgq hq h
    obtain ⟨p1, p2⟩ := pw52 a1 a2 l
    rw [dq_mk a1 a2 l]; exact vf_mk64 p1 p2 (by omega) (by omega)
def fq (q : Nat) : UInt32 := FP.d2f (dq q)
theorem fq_0 : fq 0 = 0 := by decide +kernel
theorem fq_mk {q L : Nat} (h1 : 2 ^ L ≤ q) (h2 : q < 2 ^ (L + 1)) (hL : L ≤ 20) : fq q = mk32 (q * 2 ^ (23 - L)) ((L : Int) - 25) := by
  obtain ⟨c1, c2⟩ := pw52 h1 h2 hL
  obtain ⟨d1, d2⟩ := pw23 h1 h2 hL
  unfold fq
  rw [dq_mk h1 h2 hL]
  have hd := dec64 (c := q * 2 ^ (52 - L)) (E := (L : Int) - 54) c1 c2 (by omega) (by omega)
  have hnn : FP.Core.dIsNaN (mk64 (q * 2 ^ (52 - L)) ((L : Int) - 54)) = false := by
    show decide (FP.Core.decode FP.Core.b64 (mk64 _ _).toNat = .nan) = false
    rw [hd]; exact decide_eq_false (fun z => nomatch z)
  unfold FP.d2f
  rw [hnn, if_neg (by decide)]
  show UInt32.ofNat (FP.Core.encode FP.Core.b32 (FP.Core.round FP.Core.b32 (FP.Core.decode FP.Core.b64 (mk64 _ _).toNat))) = _
  rw [hd]
  show UInt32.ofNat (FP.Core.encode FP.Core.b32 (FP.Core.roundRatio FP.Core.b32 false _ 1 _)) = _
  rw [rr_ex (f := FP.Core.b32) (c := q * 2 ^ (23 - L)) (E := (L : Int) - 25) (m := 0) (j := 0) (k := 29) (a := 52) rfl d1 d2 (by decide) (by rw [Nat.pow_zero, Nat.mul_one, Nat.mul_assoc, ← Nat.pow_add]; congr 2; omega) c1 c2 rfl (by omega) (show (-149 : Int) ≤ _ by omega) (show _ ≤ (104 : Int) by omega)]
  rfl
theorem vf_fq {q : Nat} (h : q < 2 ^ 20) : vf_n32 (fq q) := by
  rcases Nat.eq_zero_or_pos q with rfl | hq
  · rw [fq_0]; exact vf32_of (by decide)
  · obtain ⟨L, l, a1, a2⟩ := lgq hq h
    obtain ⟨p1, p2⟩ := pw23 a1 a2 l
    rw [fq_mk a1 a2 l]; exact vf_mk32 p1 p2 (by omega) (by omega)

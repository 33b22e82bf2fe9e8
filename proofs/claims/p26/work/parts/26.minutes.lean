/-! minutes and minutesBits on both sides; THE MODEL's step and turning -/
theorem nI_m1 (x : Nat) : nI (x + 1) + (-1) = nI x := by
  rw [← nI_1, Int32.add_assoc, show (1 : Int32) + (-1) = 0 from rfl, Int32.add_zero]
section MI
variable {d q c x : Nat} {M : Im} {h : Hm} {D : Dm} {a : V}
theorem b_69 {Q : Int32 → Im → Hm → Dm → Prop} {v0 : UInt32} {v3 : Int32} (h1 : 2 ^ 23 ≤ c) (h2 : c < 2 ^ 24) (hQ : Q ((nI x <<< ((23 : Int32) &&& 31)) ||| nI (c - 2 ^ 23)) M h D) : EvI d nX3_bitsOf 69 [(0, .float v0), (1, .int (nI x)), (2, .float (mk32 c (-23))), (3, .int v3)] [] M h D Q := by
  obtain ⟨e1, e2, e3⟩ := frac_mk h1 h2
  exact R_X3_bitsOf_69 ⟨e1, e2, by rw [e3]; exact hQ⟩
theorem b_43 {Q : Int32 → Im → Hm → Dm → Prop} {v0 : UInt32} (h1 : 2 ^ 23 ≤ c) (h2 : c < 2 ^ 24) (hQ : Q ((nI x <<< ((23 : Int32) &&& 31)) ||| nI (c - 2 ^ 23)) M h D) : ∀ (m i : Nat), i + m ≤ 100 → EvI d nX3_bitsOf 43 [(0, .float v0), (1, .int (nI (x + m))), (2, .float (mk32 c (-23 - m))), (3, .int (nI i))] [] M h D Q
  | 0, i, hi => by
    refine R_X3_bitsOf_43 ⟨fun c0 => absurd ((nI_leI (a := 128) (by omega) (by omega)).mp c0) (by omega), fun _ => ⟨fun _ => ?_, fun c0 => ?_⟩⟩
    · exact b_69 h1 h2 hQ
    · rcases ord_hi h1 h2 (e := -23) (by omega) (by omega) dec_f1 (by omega) with z | z
      · rw [show (-23 - ((0 : Nat) : Int)) = -23 from rfl, z] at c0; exact absurd (by decide) c0
      · rw [show (-23 - ((0 : Nat) : Int)) = -23 from rfl, z] at c0; exact absurd (by decide) c0
  | m + 1, i, hi => by
    refine R_X3_bitsOf_43 ⟨fun c0 => absurd ((nI_leI (a := 128) (by omega) (by omega)).mp c0) (by omega), fun _ => ⟨fun c0 => ?_, fun _ => ?_⟩⟩
    · rw [ord_lo h1 h2 (by omega) (by omega) dec_f1 (by omega)] at c0; exact absurd c0 (by decide)
    · rw [fmul_mk h1 h2 (by omega) (by omega), show (-23 - ((m + 1 : Nat) : Int) + 1) = -23 - (m : Int) by omega, ← Nat.add_assoc, nI_m1, nI_1]
      exact ⟨vf_mk32 h1 h2 (by omega) (by omega), b_43 h1 h2 hQ m (i + 1) (by omega)⟩
theorem b_15 {Q : Int32 → Im → Hm → Dm → Prop} {v0 : UInt32} (h1 : 2 ^ 23 ≤ c) (h2 : c < 2 ^ 24) (hQ : Q ((nI x <<< ((23 : Int32) &&& 31)) ||| nI (c - 2 ^ 23)) M h D) : ∀ (m i y : Nat), i + m ≤ 100 → y + m = x → EvI d nX3_bitsOf 15 [(0, .float v0), (1, .int (nI y)), (2, .float (mk32 c (-23 + m))), (3, .int (nI i))] [] M h D Q
  | 0, i, y, hi, hy => by
    obtain rfl : y = x := by omega
    refine R_X3_bitsOf_15 ⟨fun c0 => absurd ((nI_leI (a := 128) (by omega) (by omega)).mp c0) (by omega), fun _ => ⟨fun _ => ?_, fun c0 => ?_⟩⟩
    · exact b_43 h1 h2 hQ 0 0 (by omega)
    · rw [ord_lo h1 h2 (by omega) (by omega) dec_f2 (by omega)] at c0; exact absurd (by decide) c0
  | m + 1, i, y, hi, hy => by
    refine R_X3_bitsOf_15 ⟨fun c0 => absurd ((nI_leI (a := 128) (by omega) (by omega)).mp c0) (by omega), fun _ => ⟨fun c0 => ?_, fun _ => ?_⟩⟩
    · rcases ord_hi h1 h2 (e := -23 + ((m + 1 : Nat) : Int)) (by omega) (by omega) dec_f2 (by omega) with z | z
      · rw [z] at c0; exact absurd c0 (by decide)
      · rw [z] at c0; exact absurd c0 (by decide)
    · rw [fdiv_mk h1 h2 (by omega) (by omega), show (-23 + ((m + 1 : Nat) : Int) - 1) = -23 + (m : Int) by omega, nI_1, nI_1]
      exact ⟨vf_mk32 h1 h2 (by omega) (by omega), b_15 h1 h2 hQ m (i + 1) (y + 1) (by omega) (by omega)⟩
theorem b_15' {Q : Int32 → Im → Hm → Dm → Prop} {v0 : UInt32} (h1 : 2 ^ 23 ≤ c) (h2 : c < 2 ^ 24) (hQ : Q ((nI x <<< ((23 : Int32) &&& 31)) ||| nI (c - 2 ^ 23)) M h D) (m : Nat) (hm : m ≤ 9) (hy : 127 = x + m) : EvI d nX3_bitsOf 15 [(0, .float v0), (1, .int 127), (2, .float (mk32 c (-23 - m))), (3, .int 0)] [] M h D Q := by
  refine R_X3_bitsOf_15 ⟨fun c0 => absurd c0 (by decide), fun _ => ⟨fun _ => ?_, fun c0 => ?_⟩⟩
  · have := b_43 (d := d) (v0 := v0) h1 h2 hQ m 0 (by omega)
    rw [← hy] at this
    exact this
  · rw [ord_lo h1 h2 (by omega) (by omega) dec_f2 (by omega)] at c0; exact absurd (by decide) c0
theorem t_bitsOf {Q : Int32 → Im → Hm → Dm → Prop} (hq : q < 2 ^ 20) (hQ : Q (fq q).toInt32 M h D) : CI (d + 1) nX3_bitsOf [.float (fq q)] M h D Q := by
  refine ci_of rfl rfl (R_X3_bitsOf_0 ?_)
  rcases Nat.eq_zero_or_pos q with rfl | h0
  · rw [fq_0] at hQ ⊢
    exact ⟨fun c0 => absurd c0 (by decide +kernel), fun _ => hQ⟩
  · obtain ⟨L, l, a1, a2⟩ := lgq h0 hq
    obtain ⟨p1, p2⟩ := pw23 a1 a2 l
    rw [fq_mk a1 a2 l] at hQ ⊢
    rw [bits_mk p1 p2 (by omega) (by omega)] at hQ
    refine ⟨fun _ => ?_, fun c0 => ?_⟩
    · rcases Nat.le_total 2 L with z | z
      · have := b_15 (d := d) (v0 := mk32 (q * 2 ^ (23 - L)) ((L : Int) - 25)) p1 p2 hQ (L - 2) 0 127 (by omega) (by omega)
        rw [show (-23 + ((L - 2 : Nat) : Int)) = (L : Int) - 25 by omega] at this
        exact this
      · have := b_15' (d := d) (v0 := mk32 (q * 2 ^ (23 - L)) ((L : Int) - 25)) p1 p2 hQ (2 - L) (by omega) (by omega)
        rw [show (-23 - ((2 - L : Nat) : Int)) = (L : Int) - 25 by omega] at this
        exact this
    · rw [ord_0 p1 p2 (by omega) (by omega)] at c0; exact absurd (by decide) c0
theorem fq_self (hq : q < 2 ^ 20) : FP.fcmp (fq q) (fq q) = some .eq := by
  rcases Nat.eq_zero_or_pos q with rfl | h0
  · rw [fq_0]; decide +kernel
  · obtain ⟨L, l, a1, a2⟩ := lgq h0 hq
    obtain ⟨p1, p2⟩ := pw23 a1 a2 l
    rw [fq_mk a1 a2 l]
    exact ord_self p1 p2 (by omega) (by omega)
theorem dq_self (hq : q < 2 ^ 20) : FP.dcmp (dq q) (dq q) = some .eq := by
  rcases Nat.eq_zero_or_pos q with rfl | h0
  · decide +kernel
  · obtain ⟨L, l, a1, a2⟩ := lgq h0 hq
    obtain ⟨p1, p2⟩ := pw52 a1 a2 l
    rw [dq_mk a1 a2 l]
    show FP.Core.order (FP.Core.decode FP.Core.b64 (mk64 _ _).toNat) (FP.Core.decode FP.Core.b64 (mk64 _ _).toNat) = _
    rw [dec64 p1 p2 (by omega) (by omega)]
    exact congrArg some (cmp_eq _)
def mnd (a : V) (q : Nat) : UInt64 := if a 1 = 1 then dq q else 13830554455654793216
def mnb (a : V) (q : Nat) : Int32 := if a 1 = 1 then (fq q).toInt32 else 0
theorem tX_minutes {Q : UInt64 → Im → Hm → Dm → Prop} (hR : RS M 1 a q) (hg : a 1 = 0 ∨ a 1 = 1) (hq : q < 2 ^ 20) (hQ : Q (mnd a q) M h D) : CD (d + 1) nX3_minutes [.ref 0] M h D Q := by
  unfold mnd at hQ
  refine cd_of rfl rfl (R_X3_minutes_0 ⟨fun c => ?_, fun c => ?_⟩)
  · rw [hR.2.1] at c; rw [if_neg (by rw [c]; decide)] at hQ; exact hQ
  · rw [hR.2.1] at c; rw [if_pos (hg.resolve_left c)] at hQ
    rw [hR.2.2.2.1]; exact ⟨vf_dq hq, hQ⟩
theorem tX_minutesBits {Q : Int32 → Im → Hm → Dm → Prop} (hR : RS M 1 a q) (hg : a 1 = 0 ∨ a 1 = 1) (hq : q < 2 ^ 20) (hQ : Q (mnb a q) M h D) : CI (d + 2) nX3_minutesBits [.ref 0] M h D Q := by
  unfold mnb at hQ
  refine ci_of rfl rfl (R_X3_minutesBits_0 ⟨fun c => ?_, fun c => tX_minutes hR hg hq ?_⟩)
  · rw [hR.2.1] at c; rw [if_neg (by rw [c]; decide)] at hQ; exact hQ
  · rw [hR.2.1] at c; rw [if_pos (hg.resolve_left c)] at hQ
    unfold mnd; rw [if_pos (hg.resolve_left c)]
    exact ⟨vf_fq hq, t_bitsOf hq hQ⟩
end MI

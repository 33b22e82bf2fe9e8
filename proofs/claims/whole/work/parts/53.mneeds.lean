/-! THE MODEL: needs and hint -/
theorem nsum_add {f : Nat → Nat} {a : Nat} : ∀ b, nsum f (a + b) = nsum f a + nsum (fun i => f (a + i)) b
  | 0 => rfl
  | b + 1 => by
    show nsum f (a + b) + f (a + b) = nsum f a + (nsum (fun i => f (a + i)) b + f (a + b))
    rw [nsum_add b]; omega
theorem nsum_3 {f : Nat → Nat} : ∀ m, nsum f (3 * m) = nsum (fun k => f (3 * k) + f (3 * k + 1) + f (3 * k + 2)) m
  | 0 => rfl
  | m + 1 => by
    show nsum f (3 * m) + f (3 * m) + f (3 * m + 1) + f (3 * m + 2) = nsum (fun k => f (3 * k) + f (3 * k + 1) + f (3 * k + 2)) m + (f (3 * m) + f (3 * m + 1) + f (3 * m + 2))
    rw [nsum_3 m]; omega
theorem clo_rel {n s dr : Nat} {e : V} (hw : wf n e) (hd : dr < n) (h : CLO n e dr s) : s < 16 → s < n := by
  have hn := hw.n16
  refine h (fun s => s < 16 → s < n) (fun t ht _ => way_lt hw.out hn hd ht) (fun s t hs ht hx hnd ht16 => ?_)
  rcases hnd with hnd | ⟨j, hj, hnd⟩ | ⟨k, i, hj, hnd⟩
  · rcases hnd.2.2 with z | z | z
    · exact UP_lt hw.out hn hnd.1 z.1
    · omega
    · omega
  · rcases hnd.2.2.2 with z | ⟨i, z⟩
    · exact way_lt hw.out hn (wf_dp hw hnd.1 hnd.2.1).1 z
    · omega
  · rcases hnd.2.2.2 with z | z | ⟨i, z⟩
    · exact way_lt hw.out hn hnd.1 z
    · omega
    · omega
section MN
variable {d n k s t dr : Nat} {M : Im} {h : Hm} {D : Dm} {e : V} {A : Ab} {v w : Int32} {Q : Int32 → Im → Hm → Dm → Prop}
theorem tk_b (hB : BM M 81 (CLO n e dr)) (hs : s < 76) : (M 81 s = 0 → cB n e dr s = false) ∧ (¬ M 81 s = 0 → cB n e dr s = true) := by
  rcases hB s hs with y | y
  · exact ⟨fun _ => dB_f.mpr y.2, fun z => absurd y.1 z⟩
  · exact ⟨fun z => (by rw [y.1] at z; exact absurd z (by decide)), fun _ => dB_t.mpr y.2⟩
theorem l_takenMany {a b : Nat} (hB : BM M 81 (CLO n e dr)) (hb : b ≤ 76) (hQ : Q (nI (nsum (fun i => i01 (cB n e dr (a + i))) (b - a))) M h D) (hab : a ≤ b) : ∀ (m i : Nat), a + i + m = b → EvI d nX4_takenMany 5 [(0, .ref 73), (1, .int (nI a)), (2, .int (nI b)), (3, .int (nI (nsum (fun i => i01 (cB n e dr (a + i))) i))), (4, .int (nI (a + i)))] [] M h D Q
  | 0, i, hi => by
    refine R_X4_takenMany_5 ⟨fun _ => ?_, fun c => absurd ((nI_leI (by omega) (by omega)).mpr (by omega)) c⟩
    rw [show b - a = i by omega] at hQ; exact hQ
  | m + 1, i, hi => by
    have hh := l_takenMany hB hb hQ hab m (i + 1) (by omega)
    unfold nsum at hh
    refine R_X4_takenMany_5 ⟨fun c => absurd ((nI_leI (by omega) (by omega)).mp c) (by omega), fun _ => ⟨kvp (by omega) (by decide), ?_⟩⟩
    have hs := tk_b hB (show a + i < 76 by omega)
    rw [nI_clamp (by omega), show nI (a + i) + 1 = nI (a + (i + 1)) from nI_1 (a + i)]
    refine ⟨fun c => ?_, fun c => ?_⟩
    · rw [hs.1 c, show i01 false = 0 from rfl, Nat.add_zero] at hh
      rw [Int32.add_zero]; exact hh
    · rw [hs.2 c, show i01 true = 1 from rfl, ← nI_1] at hh; exact hh
theorem t_takenMany {a b : Nat} (hB : BM M 81 (CLO n e dr)) (hb : b ≤ 76) (hab : a ≤ b) (hQ : Q (nI (nsum (fun i => i01 (cB n e dr (a + i))) (b - a))) M h D) : CI (d + 1) nX4_takenMany [.ref 73, .int (nI a), .int (nI b)] M h D Q :=
  ci_of rfl rfl (R_X4_takenMany_0 (l_takenMany hB hb hQ hab (b - a) 0 (by omega)))
theorem l_takenSet {a b : Nat} (hB : BM M 81 (CLO n e dr)) (hb : b ≤ 76) (hQ : Q (bits (fun i => cB n e dr (a + i)) (b - a)) M h D) (hab : a ≤ b) : ∀ (m i : Nat), a + i + m = b → EvI d nX4_takenSet 5 [(0, .ref 73), (1, .int (nI a)), (2, .int (nI b)), (3, .int (bits (fun i => cB n e dr (a + i)) i)), (4, .int (nI (a + i)))] [] M h D Q
  | 0, i, hi => by
    refine R_X4_takenSet_5 ⟨fun _ => ?_, fun c => absurd ((nI_leI (by omega) (by omega)).mpr (by omega)) c⟩
    rw [show b - a = i by omega] at hQ; exact hQ
  | m + 1, i, hi => by
    have hh := l_takenSet hB hb hQ hab m (i + 1) (by omega)
    have hbs : bits (fun i => cB n e dr (a + i)) (i + 1) = bits (fun i => cB n e dr (a + i)) i ||| (if cB n e dr (a + i) = true then 1 <<< (nI i &&& 31) else 0) := rfl
    rw [hbs] at hh
    refine R_X4_takenSet_5 ⟨fun c => absurd ((nI_leI (by omega) (by omega)).mp c) (by omega), fun _ => ⟨kvp (by omega) (by decide), ?_⟩⟩
    have hs := tk_b hB (show a + i < 76 by omega)
    rw [nI_clamp (by omega), show nI (a + i) + 1 = nI (a + (i + 1)) from nI_1 (a + i), nI_sub' (by omega), show a + i - a = i by omega]
    refine ⟨fun c => ?_, fun c => ?_⟩
    · rw [hs.1 c, if_neg (by decide)] at hh; exact hh
    · rw [hs.2 c, if_pos rfl] at hh; exact hh
theorem t_takenSet {a b : Nat} (hB : BM M 81 (CLO n e dr)) (hb : b ≤ 76) (hab : a ≤ b) (hQ : Q (bits (fun i => cB n e dr (a + i)) (b - a)) M h D) : CI (d + 1) nX4_takenSet [.ref 73, .int (nI a), .int (nI b)] M h D Q :=
  ci_of rfl rfl (R_X4_takenSet_0 (l_takenSet hB hb hQ hab (b - a) 0 (by omega)))
theorem l_seals (hw : wf n e) (hC : CX M e) (hB : BM M 81 (CLO n e dr)) (hQ : Q (nI (cS n e dr)) M h D) : ∀ (m i : Nat), i + m = n → EvI (d + 1) nX4_takenSeals 4 [(0, .ref 73), (1, .int (nI (nsum (fun k => i01 (sl1 e k (cB n e dr k))) i))), (2, .int (nI i))] [] M h D Q
  | 0, i, hi => by
    have hn := hw.n16
    obtain rfl : i = n := by omega
    refine R_X4_takenSeals_4 ⟨vpl (by decide), ?_⟩
    rw [z_clamp, hC.n hw]
    exact ⟨fun _ => hQ, fun c => absurd ((nI_leI (by omega) (by omega)).mpr (Nat.le_refl _)) c⟩
  | m + 1, i, hi => by
    have hn := hw.n16
    have hi16 : i < 16 := by omega
    have hh := l_seals hw hC hB hQ m (i + 1) (by omega)
    unfold nsum at hh
    have hs := tk_b hB (show i < 76 by omega)
    have k0 : sl1 e i (cB n e dr i) = false → EvI (d + 1) nX4_takenSeals 4 [(0, .ref 73), (1, .int (nI (nsum (fun k => i01 (sl1 e k (cB n e dr k))) i) + 0)), (2, .int (nI (i + 1)))] [] M h D Q := fun z => by
      rw [z, show i01 false = 0 from rfl, Nat.add_zero] at hh
      rw [Int32.add_zero]; exact hh
    have k1 : sl1 e i (cB n e dr i) = true → EvI (d + 1) nX4_takenSeals 4 [(0, .ref 73), (1, .int (nI (nsum (fun k => i01 (sl1 e k (cB n e dr k))) i) + 1)), (2, .int (nI (i + 1)))] [] M h D Q := fun z => by
      rw [z, show i01 true = 1 from rfl, ← nI_1] at hh; exact hh
    refine R_X4_takenSeals_4 ⟨vpl (by decide), ?_⟩
    rw [z_clamp, hC.n hw]
    refine ⟨fun c => absurd ((nI_leI (by omega) (by omega)).mp c) (by omega), fun _ => ⟨kvp (by omega) (by decide), ?_⟩⟩
    rw [nI_clamp (by omega), nI_1]
    refine ⟨fun c => k0 (by rw [hs.1 c]; rfl), fun c => t_d ⟨dvp hi16 (by decide), ?_⟩⟩
    rw [dcl hi16 (by decide), hC.d hi16 (by decide)]
    refine nn_if (fun c2 => k0 (by unfold sl1; rw [show (fd e i 1 == 3) = false by simpa using c2, Bool.false_and, Bool.and_false])) (fun c2 => ?_)
    have h3 : (fd e i 1 == 3) = true := by simpa using c2
    rcases hC with ⟨h1, h2⟩ | ⟨h1, -, -, h2, -⟩
    · rw [h1]
      refine ⟨fun z => absurd z b1, fun _ => t_d ⟨dvp hi16 (by decide), ?_⟩⟩
      rw [dcl hi16 (by decide), ← h2]
      refine nn_if (fun c3 => k0 (by unfold sl1; rw [show (fd e i 7 == 0) = false by simpa using c3, Bool.and_false, Bool.and_false])) (fun c3 => k1 (by unfold sl1; rw [hs.2 c, h3, show (fd e i 7 == 0) = true by simpa using c3]; rfl))
    · rw [h1]
      exact ⟨fun _ => k1 (by unfold sl1; rw [hs.2 c, h3, (h2 i hi16).2.2]; rfl), fun z => absurd rfl z⟩
theorem t_takenSeals (hw : wf n e) (hC : CX M e) (hB : BM M 81 (CLO n e dr)) (hQ : Q (nI (cS n e dr)) M h D) : CI (d + 2) nX4_takenSeals [.ref 73] M h D Q :=
  ci_of rfl rfl (R_X4_takenSeals_0 (l_seals hw hC hB hQ n 0 (by omega)))
theorem cL_48 : nsum (fun i => i01 (cB n e dr (28 + i))) 48 = cL n e dr := by
  rw [show (48 : Nat) = 3 * 16 from rfl, nsum_3]
  exact nsum_w (fun k _ => by unfold cL1; rw [show 28 + (3 * k) = 28 + 3 * k from rfl, show 28 + (3 * k + 1) = 28 + 3 * k + 1 from rfl, show 28 + (3 * k + 2) = 28 + 3 * k + 2 from rfl])
theorem cL_76 : nsum (fun i => i01 (cB n e dr (0 + i))) 76 = cO n e dr + cT n e dr + cL n e dr := by
  rw [show (76 : Nat) = 16 + (12 + 48) from rfl, nsum_add, nsum_add]
  have h1 : nsum (fun i => i01 (cB n e dr (0 + i))) 16 = cO n e dr := nsum_w (fun i _ => by rw [Nat.zero_add])
  have h2 : nsum (fun i => i01 (cB n e dr (0 + (16 + i)))) 12 = cT n e dr := nsum_w (fun i _ => by rw [Nat.zero_add])
  have h3 : nsum (fun i => i01 (cB n e dr (0 + (16 + (12 + i))))) 48 = cL n e dr := by
    rw [← cL_48]
    exact nsum_w (fun i _ => by rw [show 0 + (16 + (12 + i)) = 28 + i by omega])
  rw [h1, h2, h3]; omega
/-- as things stand -/
theorem EF_now (hw : wf n (M 74)) {f : Int32} (hf : (f = 1 ∧ M 74 1 = 1) ∨ (f = 0 ∧ ¬ M 74 1 = 1)) : EF (M 74) (M 74) f := by
  rcases hf with ⟨z, -⟩ | ⟨z, z2⟩
  · exact Or.inl ⟨z, rfl⟩
  · obtain ⟨g1, g2⟩ := hw.ng (hw.a1.resolve_right z2)
    exact Or.inr ⟨z, ⟨fun _ _ _ _ => rfl, fun _ _ _ _ => rfl⟩, rfl, g1, g2⟩
theorem IM_K {M1 : Im} {f : Int32} (hI : IM M D A) (hF : ∀ c, c ≠ 78 → c ≠ 79 → c ≠ 80 → c ≠ 81 → M1 c = up2 M 73 13 f c) : IM M1 D A := by
  have k : ∀ c, c ≠ 73 → c ≠ 78 → c ≠ 79 → c ≠ 80 → c ≠ 81 → M1 c = M c := fun c h0 h1 h2 h3 h4 => by rw [hF c h1 h2 h3 h4, up2_ne _ _ _ h0]
  have h73 := hF 73 (by decide) (by decide) (by decide) (by decide)
  refine IM_fr hI ⟨?_, ?_, ?_⟩ (fun c hc => k c (by omega) (by omega) (by omega) (by omega) (by omega))
  · rw [h73]; simp [up2]
  · rw [h73]; simp [up2]
  · rw [h73]; simp [up2]
theorem FrM_K {M1 : Im} {f : Int32} (hF : ∀ c, c ≠ 78 → c ≠ 79 → c ≠ 80 → c ≠ 81 → M1 c = up2 M 73 13 f c) : FrM M M1 := fun c hc => by
  rw [hF c (by omega) (by omega) (by omega) (by omega), up2_ne _ _ _ (by omega)]
theorem M_needs (hw : wf n A.1.1) (hI : IM M D A) (hQ : ∀ M1, IM M1 D A → FrM M M1 → Q (opNeeds n A.1.1 v w) M1 h D) : CI (d + 7) nX4_needs [.ref 73, .int v, .int w] M h D Q := by
  obtain ⟨⟨a, q⟩, B⟩ := A
  have ha : M 74 = a := hI.1.1
  subst ha
  have hw : wf n (M 74) := hw
  have hn := hw.n16
  have hQ : ∀ M1, IM M1 D ((M 74, q), B) → FrM M M1 → Q (opNeeds n (M 74) v w) M1 h D := hQ
  unfold opNeeds at hQ
  refine ci_of rfl rfl (R_X4_needs_0 (t_isDrawer hw.a0 hn (fun k hk e => ⟨fun _ => ?_, fun z => absurd b1 z⟩) (fun c => ⟨fun z => absurd rfl z, fun _ => ?_⟩)))
  · subst e
    rw [if_pos (isD_of hw.a0 hn hk)] at hQ
    refine t_in (fun c => ⟨fun _ => ?_, fun z => absurd b1 z⟩) (fun c => ⟨fun z => absurd rfl z, fun _ => ?_⟩)
    · rw [if_pos c, kcl (by omega)] at hQ
      have go : ∀ f : Int32, ((f = 1 ∧ M 74 1 = 1) ∨ (f = 0 ∧ ¬ M 74 1 = 1)) → CV (d + 6) nX4_reckon [.ref 73, .int f] M h D (fun M6 h6 D6 => CI (d + 6) nX4_gather [.ref 73, .int (nI k)] M6 h6 D6 (fun x7 M7 h7 D7 => ((¬ (x7 = 0)) → (((w.toInt < 0 ∨ 3 < w.toInt) → (CI (d + 6) nX4_takenSeals [.ref 73] M7 h7 D7 (fun x9 M9 h9 D9 => Q x9 M9 h9 D9))) ∧ ((w = 0) → (CI (d + 6) nX4_takenMany [.ref 73, .int 0, .int 76] M7 h7 D7 (fun x11 M11 h11 D11 => Q x11 M11 h11 D11))) ∧ ((w = 1) → (CI (d + 6) nX4_takenSet [.ref 73, .int 0, .int 16] M7 h7 D7 (fun x12 M12 h12 D12 => Q x12 M12 h12 D12))) ∧ ((w = 2) → (CI (d + 6) nX4_takenSet [.ref 73, .int 16, .int 28] M7 h7 D7 (fun x13 M13 h13 D13 => Q x13 M13 h13 D13))) ∧ ((w = 3) → (CI (d + 6) nX4_takenMany [.ref 73, .int 28, .int 76] M7 h7 D7 (fun x14 M14 h14 D14 => Q x14 M14 h14 D14))))) ∧ (¬ (¬ (x7 = 0)) → (Q (-4) M7 h7 D7)))) := by
        intro f hf
        refine t_reckon hw (EF_now hw hf) (fun M1 c1 m1 b1' f1 => t_gather hw hk c1 m1 b1' (fun hp M2 t2 f2 => ⟨fun _ => ?_, fun z => absurd b1 z⟩) (fun hp M2 f2 => ⟨fun z => absurd rfl z, fun _ => ?_⟩))
        · have hF : ∀ c, c ≠ 78 → c ≠ 79 → c ≠ 80 → c ≠ 81 → M2 c = up2 M 73 13 f c := fun c h1 h2 h3 h4 => (f2 c h4).trans (f1 c h1 h2 h3)
          have hq := hQ M2 (IM_K hI hF) (FrM_K hF)
          rw [if_pos hp] at hq
          have hC2 := c1.fr f2.k
          obtain ⟨j, hj, rfl⟩ := rng (m := 4) c (by decide)
          unfold rNeeds at hq
          refine ⟨fun c5 => ?_, fun c5 => ?_, fun c5 => ?_, fun c5 => ?_, fun c5 => ?_⟩
          · rw [nI_toInt (by omega)] at c5
            obtain rfl : j = 4 := by omega
            rw [if_neg (by decide), if_neg (by decide), if_neg (by decide), if_neg (by decide)] at hq
            exact t_takenSeals hw hC2 t2 hq
          · rw [if_pos c5] at hq
            refine t_takenMany (a := 0) (b := 76) t2 (by decide) (by decide) ?_
            rw [show 76 - 0 = 76 from rfl, cL_76]; exact hq
          · rw [if_neg (by rw [c5]; decide), if_pos c5] at hq
            refine t_takenSet (a := 0) (b := 16) t2 (by decide) (by decide) ?_
            rw [show (fun i => cB n (M 74) k (0 + i)) = cB n (M 74) k from funext (fun i => by rw [Nat.zero_add])]; exact hq
          · rw [if_neg (by rw [c5]; decide), if_neg (by rw [c5]; decide), if_pos c5] at hq
            exact t_takenSet (a := 16) (b := 28) t2 (by decide) (by decide) hq
          · rw [if_neg (by rw [c5]; decide), if_neg (by rw [c5]; decide), if_neg (by rw [c5]; decide), if_pos c5] at hq
            refine t_takenMany (a := 28) (b := 76) t2 (by decide) (by decide) ?_
            rw [show 76 - 28 = 48 from rfl, cL_48]; exact hq
        · have hF : ∀ c, c ≠ 78 → c ≠ 79 → c ≠ 80 → c ≠ 81 → M2 c = up2 M 73 13 f c := fun c h1 h2 h3 h4 => (f2 c h4).trans (f1 c h1 h2 h3)
          have hq := hQ M2 (IM_K hI hF) (FrM_K hF)
          rw [if_neg (by rw [hp]; decide)] at hq
          exact hq
      exact t_isGame (fun hg => go 1 (Or.inl ⟨rfl, hg⟩)) (fun hg => go 0 (Or.inr ⟨rfl, hg⟩))
    · rw [if_neg c] at hQ; exact hQ M hI (FrM.refl M)
  · rw [if_neg (isD_no hw.a0 hn c)] at hQ; exact hQ M hI (FrM.refl M)
theorem fst1_s' {p : Nat → Bool} {m i : Nat} (h : p i = false) : fst1 p (m + 1) i = fst1 p m (i + 1) := by rw [fst1_s, if_neg (by rw [h]; decide)]
theorem fst1_t {p : Nat → Bool} {m i : Nat} (h : p i = true) : fst1 p (m + 1) i = some i := by rw [fst1_s, if_pos h]
theorem lM_h3 {v1 : Int32} (hw : wf n (M 74)) (hB : BM M 81 (CLO n (M 74) dr)) (hQ : Q (match fst1 (fun k => cB n (M 74) dr (28 + 3 * k + lfN (M 74) k) && canL (M 74) k) 16 0 with | some k => 300 + nI k | none => -5) M h D) : ∀ (m i : Nat), i + m = n → fst1 (fun k => cB n (M 74) dr (28 + 3 * k + lfN (M 74) k) && canL (M 74) k) 16 0 = fst1 (fun k => cB n (M 74) dr (28 + 3 * k + lfN (M 74) k) && canL (M 74) k) (16 - n + m) i → EvI (d + 3) nX4_hint 118 [(0, .ref 73), (1, .int v1), (2, .int (nI i))] [] M h D Q
  | 0, i, hi, hf => by
    have hn := hw.n16
    obtain rfl : i = n := by omega
    refine R_X4_hint_118 ⟨vpl (by decide), ?_⟩
    rw [z_clamp, hw.a0]
    refine ⟨fun _ => ?_, fun c => absurd ((nI_leI (by omega) (by omega)).mpr (Nat.le_refl _)) c⟩
    rw [hf, fst1_no (16 - i + 0) i (fun k h1 h2 => by
      have : canL (M 74) k = false := by
        unfold canL; rw [(hw.zr k h1 (by omega)).2.2.1]; rfl
      rw [this, Bool.and_false])] at hQ
    exact hQ
  | m + 1, i, hi, hf => by
    have hn := hw.n16
    have hi16 : i < 16 := by omega
    have skip : (cB n (M 74) dr (28 + 3 * i + lfN (M 74) i) && canL (M 74) i) = false → EvI (d + 3) nX4_hint 118 [(0, .ref 73), (1, .int v1), (2, .int (nI (i + 1)))] [] M h D Q := fun hc =>
      lM_h3 hw hB hQ m (i + 1) (by omega) (hf.trans (fst1_s' (m := 16 - n + m) hc))
    have h3 := lf3 hw hi16
    obtain ⟨b, hb, b1', b2⟩ := wf_bm hw hi16
    have hl3 : canL (M 74) i = true → lfN (M 74) i < 3 := fun z => by
      have h2 := (canL_t z).2.2.1
      rw [(wf_lf hw hi16).1, b1'] at h2
      have := (nI_ltI (by omega) (by omega)).mp h2
      omega
    have k168 : ∀ s0 : Nat, s0 < 3 → (lfN (M 74) i < 3 → s0 = lfN (M 74) i) → EvI (d + 3) nX4_hint 168 [(0, .ref 73), (1, .int v1), (2, .int (nI i))] [.int (nI s0), .int (28 + (3 * nI i)), .ref 81] M h D Q := by
      intro s0 hs0 hs1
      refine R_X4_hint_168 ?_
      rw [mul3, nI_clamp (by omega), nI_1]
      have hs := tk_b hB (show 28 + 3 * i + s0 < 76 by omega)
      refine ⟨vp_in_nI (by omega) (by decide), fun c => skip ?_, fun c => t_canLift hw.out hn (by omega) (b2i_if (fun c2 => skip (by rw [c2, Bool.and_false])) (fun c2 => ?_))⟩
      · cases hL : canL (M 74) i
        · rw [Bool.and_false]
        · rw [← hs1 (hl3 hL), hs.1 c]; rfl
      · rw [hf, show 16 - n + (m + 1) = (16 - n + m) + 1 by omega, fst1_t (by rw [← hs1 (hl3 c2), hs.2 c, c2]; rfl)] at hQ
        exact hQ
    refine R_X4_hint_118 ⟨vpl (by decide), ?_⟩
    rw [z_clamp, hw.a0]
    refine ⟨fun c => absurd ((nI_leI (by omega) (by omega)).mp c) (by omega), fun _ => t_d ⟨dvp hi16 (by decide), ?_⟩⟩
    rw [dcl hi16 (by decide), show M 74 (40 + 8 * i + 5) = nI (lfN (M 74) i) from (wf_lf hw hi16).1]
    refine ⟨fun c => k168 2 (by decide) (fun z => ?_), fun c => t_d ⟨dvp hi16 (by decide), ?_⟩⟩
    · have := (nI_leI (a := 3) (by decide) (by omega)).mp c; omega
    · rw [dcl hi16 (by decide), show M 74 (40 + 8 * i + 5) = nI (lfN (M 74) i) from (wf_lf hw hi16).1]
      have hlt : lfN (M 74) i < 3 := by
        rcases Nat.lt_or_ge (lfN (M 74) i) 3 with z | z
        · exact z
        · exact absurd ((nI_leI (a := 3) (by decide) (by omega)).mpr z) c
      exact k168 _ hlt (fun _ => rfl)
theorem lM_h2 {v1 : Int32} (hw : wf n (M 74)) (hB : BM M 81 (CLO n (M 74) dr)) (hQ : Q (match fst1 (fun t => cB n (M 74) dr (16 + t) && canT (M 74) t) 12 0 with | some t => 200 + nI t | none => match fst1 (fun k => cB n (M 74) dr (28 + 3 * k + lfN (M 74) k) && canL (M 74) k) 16 0 with | some k => 300 + nI k | none => -5) M h D) : ∀ (m i : Nat), i + m = 12 → fst1 (fun t => cB n (M 74) dr (16 + t) && canT (M 74) t) 12 0 = fst1 (fun t => cB n (M 74) dr (16 + t) && canT (M 74) t) m i → EvI (d + 3) nX4_hint 78 [(0, .ref 73), (1, .int v1), (2, .int (nI i))] [] M h D Q
  | 0, i, hi, hf => by
    have hn := hw.n16
    obtain rfl : i = 12 := by omega
    rw [hf] at hQ
    exact R_X4_hint_78 ⟨fun _ => lM_h3 hw hB hQ n 0 (by omega) (by rw [show 16 - n + n = 16 by omega]), fun c => absurd ((nI_leI (a := 12) (by omega) (by omega)).mpr (by omega)) c⟩
  | m + 1, i, hi, hf => by
    have hi12 : i < 12 := by omega
    have hn := hw.n16
    have hs := tk_b hB (show 16 + i < 76 by omega)
    have skip : (cB n (M 74) dr (16 + i) && canT (M 74) i) = false → EvI (d + 3) nX4_hint 78 [(0, .ref 73), (1, .int v1), (2, .int (nI (i + 1)))] [] M h D Q := fun hc =>
      lM_h2 hw hB hQ m (i + 1) (by omega) (hf.trans (fst1_s' (m := m) hc))
    refine R_X4_hint_78 ⟨fun c => absurd ((nI_leI (a := 12) (by omega) (by omega)).mp c) (by omega), fun _ => ?_⟩
    rw [show (16 : Int32) + nI i = nI (16 + i) from nI_add 16 i, nI_clamp (by omega), nI_1]
    refine ⟨kvp (by omega) (by decide), fun c => skip (by rw [hs.1 c]; rfl), fun c => t_canTake hw.out hw.th hn hi12 (b2i_if (fun c2 => skip (by rw [c2, Bool.and_false])) (fun c2 => ?_))⟩
    rw [hf, fst1_t (m := m) (by rw [hs.2 c, c2]; rfl)] at hQ
    exact hQ
theorem lM_h1 {v1 : Int32} (hw : wf n (M 74)) (hd : dr < n) (hB : BM M 81 (CLO n (M 74) dr)) (hQ : Q (rHint n (M 74) dr) M h D) : ∀ (m i : Nat), i + m = n → fst1 (fun k => cB n (M 74) dr k && canO (M 74) k) 16 0 = fst1 (fun k => cB n (M 74) dr k && canO (M 74) k) (16 - n + m) i → EvI (d + 3) nX4_hint 38 [(0, .ref 73), (1, .int v1), (2, .int (nI i))] [] M h D Q
  | 0, i, hi, hf => by
    have hn := hw.n16
    obtain rfl : i = n := by omega
    refine R_X4_hint_38 ⟨vpl (by decide), ?_⟩
    rw [z_clamp, hw.a0]
    refine ⟨fun _ => ?_, fun c => absurd ((nI_leI (by omega) (by omega)).mpr (Nat.le_refl _)) c⟩
    unfold rHint at hQ
    rw [hf, fst1_no (16 - i + 0) i (fun k h1 h2 => by
      have : cB i (M 74) dr k = false := dB_f.mpr (fun z => by have := clo_rel hw hd z (by omega); omega)
      rw [this, Bool.false_and])] at hQ
    exact lM_h2 hw hB hQ 12 0 rfl rfl
  | m + 1, i, hi, hf => by
    have hn := hw.n16
    have hi16 : i < 16 := by omega
    have hs := tk_b hB (show i < 76 by omega)
    have skip : (cB n (M 74) dr i && canO (M 74) i) = false → EvI (d + 3) nX4_hint 38 [(0, .ref 73), (1, .int v1), (2, .int (nI (i + 1)))] [] M h D Q := fun hc =>
      lM_h1 hw hd hB hQ m (i + 1) (by omega) (hf.trans (fst1_s' (m := 16 - n + m) hc))
    refine R_X4_hint_38 ⟨vpl (by decide), ?_⟩
    rw [z_clamp, hw.a0]
    refine ⟨fun c => absurd ((nI_leI (by omega) (by omega)).mp c) (by omega), fun _ => ⟨kvp (by omega) (by decide), ?_⟩⟩
    rw [nI_clamp (by omega), nI_1]
    refine ⟨fun c => skip (by rw [hs.1 c]; rfl), fun c => t_canOpen hw.out hw.by' hn (by omega) (b2i_if (fun c2 => skip (by rw [c2, Bool.and_false])) (fun c2 => ?_))⟩
    unfold rHint at hQ
    rw [hf, show 16 - n + (m + 1) = (16 - n + m) + 1 by omega, fst1_t (by rw [hs.2 c, c2]; rfl)] at hQ
    exact hQ
theorem M_hint (hw : wf n A.1.1) (hI : IM M D A) (hQ : ∀ M1, IM M1 D A → FrM M M1 → Q (opHint n A.1.1 v) M1 h D) : CI (d + 7) nX4_hint [.ref 73, .int v] M h D Q := by
  obtain ⟨⟨a, q⟩, B⟩ := A
  have ha : M 74 = a := hI.1.1
  subst ha
  have hw : wf n (M 74) := hw
  have hn := hw.n16
  have hQ : ∀ M1, IM M1 D ((M 74, q), B) → FrM M M1 → Q (opHint n (M 74) v) M1 h D := hQ
  unfold opHint at hQ
  refine ci_of rfl rfl (R_X4_hint_0 (t_isDrawer hw.a0 hn (fun k hk e => ⟨fun _ => ?_, fun z => absurd b1 z⟩) (fun c => ⟨fun z => absurd rfl z, fun _ => ?_⟩)))
  · subst e
    rw [if_pos (isD_of hw.a0 hn hk), kcl (by omega)] at hQ
    refine t_isGame (fun hg => ⟨fun _ => ?_, fun z => absurd b1 z⟩) (fun hg => ⟨fun z => absurd rfl z, fun _ => ?_⟩)
    · rw [if_pos hg] at hQ
      refine t_reckon hw (EF_now hw (Or.inl ⟨rfl, hg⟩)) (fun M1 c1 m1 b1' f1 => t_gather hw hk c1 m1 b1' (fun hp M2 t2 f2 => ⟨fun _ => ?_, fun z => absurd b1 z⟩) (fun hp M2 f2 => ⟨fun z => absurd rfl z, fun _ => ?_⟩))
      · have hF : ∀ c, c ≠ 78 → c ≠ 79 → c ≠ 80 → c ≠ 81 → M2 c = up2 M 73 13 1 c := fun c h1 h2 h3 h4 => (f2 c h4).trans (f1 c h1 h2 h3)
        have hq := hQ M2 (IM_K hI hF) (FrM_K hF)
        rw [if_pos hp] at hq
        have h74 : M2 74 = M 74 := by rw [hF 74 (by decide) (by decide) (by decide) (by decide), up2_ne _ _ _ (by decide)]
        refine lM_h1 (dr := k) (by rw [h74]; exact hw) hk (by rw [h74]; exact t2) (by rw [h74]; exact hq) n 0 (by omega) (by rw [show 16 - n + n = 16 by omega])
      · have hF : ∀ c, c ≠ 78 → c ≠ 79 → c ≠ 80 → c ≠ 81 → M2 c = up2 M 73 13 1 c := fun c h1 h2 h3 h4 => (f2 c h4).trans (f1 c h1 h2 h3)
        have hq := hQ M2 (IM_K hI hF) (FrM_K hF)
        rw [if_neg (by rw [hp]; decide)] at hq
        exact hq
    · rw [if_neg hg] at hQ; exact hQ M hI (FrM.refl M)
  · rw [if_neg (isD_no hw.a0 hn c)] at hQ; exact hQ M hI (FrM.refl M)
end MN

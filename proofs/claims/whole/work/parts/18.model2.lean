/-! THE MODEL's methods, 2: sums and sets -/
def fsum (g : Nat → Int32) : Nat → Int32
  | 0 => 0
  | k + 1 => fsum g k + g k
def foru (g : Nat → Int32) : Nat → Int32
  | 0 => 0
  | k + 1 => foru g k ||| g k
section M2
variable {d n : Nat} {M : Im} {h : Hm} {D : Dm} {Q : Int32 → Im → Hm → Dm → Prop}
theorem l_sumOf {j : Nat} (h0 : M 74 0 = nI n) (hn : n ≤ 16) (hj : j < 8) (hQ : Q (fsum (fun k => fd (M 74) k j) n) M h D) : ∀ (m i : Nat), i + m = n → EvI (d + 1) nX4_sumOf 4 [(0, .ref 73), (1, .int (nI j)), (2, .int (fsum (fun k => fd (M 74) k j) i)), (3, .int (nI i))] [] M h D Q
  | 0, i, hi => by
    refine R_X4_sumOf_4 ⟨vpl (by decide), ?_⟩
    rw [z_clamp, h0]
    refine ⟨fun _ => ?_, fun c => absurd ((nI_leI (by omega) (by omega)).mpr (by omega)) c⟩
    rw [show i = n by omega]; exact hQ
  | m + 1, i, hi => by
    refine R_X4_sumOf_4 ⟨vpl (by decide), ?_⟩
    rw [z_clamp, h0]
    refine ⟨fun c => absurd ((nI_leI (by omega) (by omega)).mp c) (by omega), fun _ => t_d ?_⟩
    rw [nI_add]
    refine ⟨kvp (by omega) (by decide), ?_⟩
    rw [nI_clamp (by omega), nI_1]
    exact l_sumOf h0 hn hj hQ m (i + 1) (by omega)
theorem t_sumOf {j : Nat} (h0 : M 74 0 = nI n) (hn : n ≤ 16) (hj : j < 8) (hQ : Q (fsum (fun k => fd (M 74) k j) n) M h D) : CI (d + 2) nX4_sumOf [.ref 73, .int (nI j)] M h D Q :=
  ci_of rfl rfl (R_X4_sumOf_0 (l_sumOf h0 hn hj hQ n 0 (by omega)))
theorem l_handMany (hQ : Q (fsum (fun t => ft (M 74) t 2) 12) M h D) : ∀ (m i : Nat), i + m = 12 → EvI (d + 1) nX4_handMany 4 [(0, .ref 73), (1, .int (fsum (fun t => ft (M 74) t 2) i)), (2, .int (nI i))] [] M h D Q
  | 0, i, hi => by
    refine R_X4_handMany_4 ⟨fun _ => ?_, fun c => absurd ((nI_leI (a := 12) (by omega) (by omega)).mpr (by omega)) c⟩
    rw [show i = 12 by omega]; exact hQ
  | m + 1, i, hi => by
    refine R_X4_handMany_4 ⟨fun c => absurd ((nI_leI (a := 12) (by omega) (by omega)).mp c) (by omega), fun _ => t_t ⟨tvp (by omega) (by decide), ?_⟩⟩
    rw [tcl (by omega) (by decide), nI_1]
    exact l_handMany hQ m (i + 1) (by omega)
theorem t_handMany (hQ : Q (fsum (fun t => ft (M 74) t 2) 12) M h D) : CI (d + 2) nX4_handMany [.ref 73] M h D Q :=
  ci_of rfl rfl (R_X4_handMany_0 (l_handMany hQ 12 0 (by omega)))
theorem l_handSet (hQ : Q (foru (fun t => ft (M 74) t 2 <<< (nI t &&& 31)) 12) M h D) : ∀ (m i : Nat), i + m = 12 → EvI (d + 1) nX4_handSet 4 [(0, .ref 73), (1, .int (foru (fun t => ft (M 74) t 2 <<< (nI t &&& 31)) i)), (2, .int (nI i))] [] M h D Q
  | 0, i, hi => by
    refine R_X4_handSet_4 ⟨fun _ => ?_, fun c => absurd ((nI_leI (a := 12) (by omega) (by omega)).mpr (by omega)) c⟩
    rw [show i = 12 by omega]; exact hQ
  | m + 1, i, hi => by
    refine R_X4_handSet_4 ⟨fun c => absurd ((nI_leI (a := 12) (by omega) (by omega)).mp c) (by omega), fun _ => t_t ⟨tvp (by omega) (by decide), ?_⟩⟩
    rw [tcl (by omega) (by decide), nI_1]
    exact l_handSet hQ m (i + 1) (by omega)
theorem t_handSet (hQ : Q (foru (fun t => ft (M 74) t 2 <<< (nI t &&& 31)) 12) M h D) : CI (d + 2) nX4_handSet [.ref 73] M h D Q :=
  ci_of rfl rfl (R_X4_handSet_0 (l_handSet hQ 12 0 (by omega)))
theorem l_laidMany (hQ : Q (fsum (fun t => if ft (M 74) t 0 = -5 then 0 else 1) 12) M h D) : ∀ (m i : Nat), i + m = 12 → EvI (d + 1) nX4_laidMany 4 [(0, .ref 73), (1, .int (fsum (fun t => if ft (M 74) t 0 = -5 then 0 else 1) i)), (2, .int (nI i))] [] M h D Q
  | 0, i, hi => by
    refine R_X4_laidMany_4 ⟨fun _ => ?_, fun c => absurd ((nI_leI (a := 12) (by omega) (by omega)).mpr (by omega)) c⟩
    rw [show i = 12 by omega]; exact hQ
  | m + 1, i, hi => by
    refine R_X4_laidMany_4 ⟨fun c => absurd ((nI_leI (a := 12) (by omega) (by omega)).mp c) (by omega), fun _ => t_t ⟨tvp (by omega) (by decide), ?_⟩⟩
    rw [tcl (by omega) (by decide), nI_1]
    have hh := l_laidMany hQ m (i + 1) (by omega)
    unfold fsum at hh
    refine ⟨fun c => ?_, fun c => ?_⟩
    · rw [if_neg c] at hh; exact hh
    · rw [if_pos (Classical.not_not.mp c)] at hh; exact hh
theorem t_laidMany (hQ : Q (fsum (fun t => if ft (M 74) t 0 = -5 then 0 else 1) 12) M h D) : CI (d + 2) nX4_laidMany [.ref 73] M h D Q :=
  ci_of rfl rfl (R_X4_laidMany_0 (l_laidMany hQ 12 0 (by omega)))
theorem l_thingsIn {v : Int32} (hQ : Q (fsum (fun t => if ft (M 74) t 0 = v ∧ ft (M 74) t 2 = 0 then 1 else 0) 12) M h D) : ∀ (m i : Nat), i + m = 12 → EvI (d + 1) nX4_thingsIn 4 [(0, .ref 73), (1, .int v), (2, .int (fsum (fun t => if ft (M 74) t 0 = v ∧ ft (M 74) t 2 = 0 then 1 else 0) i)), (3, .int (nI i))] [] M h D Q
  | 0, i, hi => by
    refine R_X4_thingsIn_4 ⟨fun _ => ?_, fun c => absurd ((nI_leI (a := 12) (by omega) (by omega)).mpr (by omega)) c⟩
    rw [show i = 12 by omega]; exact hQ
  | m + 1, i, hi => by
    refine R_X4_thingsIn_4 ⟨fun c => absurd ((nI_leI (a := 12) (by omega) (by omega)).mp c) (by omega), fun _ => t_t ⟨tvp (by omega) (by decide), ?_⟩⟩
    rw [tcl (by omega) (by decide), nI_1]
    have hh := l_thingsIn hQ m (i + 1) (by omega)
    unfold fsum at hh
    refine ⟨fun c => ?_, fun c => t_t ⟨tvp (by omega) (by decide), ?_⟩⟩
    · rw [if_neg (fun z => c z.1)] at hh; exact hh
    · rw [tcl (by omega) (by decide)]
      refine ⟨fun c2 => ?_, fun c2 => ?_⟩
      · rw [if_neg (fun z => c2 z.2)] at hh; exact hh
      · rw [if_pos ⟨Classical.not_not.mp c, Classical.not_not.mp c2⟩] at hh; exact hh
theorem t_thingsIn {v : Int32} (hQ : Q (fsum (fun t => if ft (M 74) t 0 = v ∧ ft (M 74) t 2 = 0 then 1 else 0) 12) M h D) : CI (d + 2) nX4_thingsIn [.ref 73, .int v] M h D Q :=
  ci_of rfl rfl (R_X4_thingsIn_0 (l_thingsIn hQ 12 0 (by omega)))
/-- how many drawers are around x -/
def outs (a : V) : Nat → Int32 → Nat
  | 0, _ => 0
  | n + 1, x => if x = -5 then 0 else 1 + outs a n (fd a x.toNatClampNeg 0)
theorem l_outersOf {v1 : Int32} (ho : outOk n (M 74)) (hn : n ≤ 16) : ∀ (m r : Nat) (x : Int32), (x = -5 ∨ ∃ j, j < n ∧ j < m ∧ x = nI j) → Q (nI (r + outs (M 74) m x)) M h D → EvI (d + 1) nX4_outersOf 14 [(0, .ref 73), (1, .int v1), (2, .int (nI r)), (3, .int x)] [] M h D Q
  | 0, r, x, hx, hQ => by
    have e : x = -5 := by
      rcases hx with e | ⟨j, _, hj, _⟩
      · exact e
      · omega
    subst e
    exact R_X4_outersOf_14 ⟨fun _ => hQ, fun c => absurd rfl c⟩
  | m + 1, r, x, hx, hQ => by
    unfold outs at hQ
    refine R_X4_outersOf_14 ⟨fun c => ?_, fun c => ?_⟩
    · rw [if_pos c] at hQ; exact hQ
    · rw [if_neg c] at hQ
      obtain ⟨j, hj, hjm, rfl⟩ := hx.resolve_left c
      rw [kcl (by omega)] at hQ
      refine t_d ⟨dvp (by omega) (by decide), ?_⟩
      rw [dcl (by omega) (by decide), nI_1]
      refine l_outersOf ho hn m (r + 1) _ ?_ (by rw [Nat.add_assoc]; exact hQ)
      rcases ho j hj with e | ⟨i, hi, e⟩
      · exact Or.inl e
      · exact Or.inr ⟨i, by omega, by omega, e⟩
theorem t_outersOf {k : Nat} (ho : outOk n (M 74)) (hn : n ≤ 16) (hk : k < n) (hQ : Q (nI (outs (M 74) 16 (fd (M 74) k 0))) M h D) : CI (d + 2) nX4_outersOf [.ref 73, .int (nI k)] M h D Q := by
  refine ci_of rfl rfl (R_X4_outersOf_0 (t_d ⟨dvp (by omega) (by decide), ?_⟩))
  rw [dcl (by omega) (by decide)]
  refine l_outersOf ho hn 16 0 _ ?_ (by rw [Nat.zero_add]; exact hQ)
  rcases ho k hk with e | ⟨i, hi, e⟩
  · exact Or.inl e
  · exact Or.inr ⟨i, by omega, by omega, e⟩
theorem l_openableSet (h0 : M 74 0 = nI n) (ho : outOk n (M 74)) (hb : byOk n (M 74)) (hn : n ≤ 16) (hQ : Q (foru (fun k => if canO (M 74) k then 1 <<< (nI k &&& 31) else 0) n) M h D) : ∀ (m i : Nat), i + m = n → EvI (d + 3) nX4_openableSet 4 [(0, .ref 73), (1, .int (foru (fun k => if canO (M 74) k then 1 <<< (nI k &&& 31) else 0) i)), (2, .int (nI i))] [] M h D Q
  | 0, i, hi => by
    refine R_X4_openableSet_4 ⟨vpl (by decide), ?_⟩
    rw [z_clamp, h0]
    refine ⟨fun _ => ?_, fun c => absurd ((nI_leI (by omega) (by omega)).mpr (by omega)) c⟩
    rw [show i = n by omega]; exact hQ
  | m + 1, i, hi => by
    refine R_X4_openableSet_4 ⟨vpl (by decide), ?_⟩
    rw [z_clamp, h0]
    refine ⟨fun c => absurd ((nI_leI (by omega) (by omega)).mp c) (by omega), fun _ => t_canOpen ho hb hn (by omega) ?_⟩
    rw [nI_1]
    have hh := l_openableSet h0 ho hb hn hQ m (i + 1) (by omega)
    unfold foru at hh
    cases hc : canO (M 74) i
    · rw [hc] at hh; exact ⟨fun _ => hh, fun z => absurd rfl z⟩
    · rw [hc] at hh; exact ⟨fun z => absurd z (by decide), fun _ => hh⟩
theorem t_openableSet (h0 : M 74 0 = nI n) (ho : outOk n (M 74)) (hb : byOk n (M 74)) (hn : n ≤ 16) (hQ : Q (foru (fun k => if canO (M 74) k then 1 <<< (nI k &&& 31) else 0) n) M h D) : CI (d + 4) nX4_openableSet [.ref 73] M h D Q :=
  ci_of rfl rfl (R_X4_openableSet_0 (l_openableSet h0 ho hb hn hQ n 0 (by omega)))
/-- a holder is wanting -/
def lack1 (n : Nat) (a : V) (k : Nat) : Bool := (fd a k 1 == 2) && decide (nI n ≤ fd a k 2)
def lacks (n : Nat) (a : V) : Nat → Bool
  | 0 => false
  | k + 1 => lacks n a k || lack1 n a k
theorem l_lacksHolder (h0 : M 74 0 = nI n) (hn : n ≤ 16) (hQ : Q (b2i (lacks n (M 74) n)) M h D) : ∀ (m i : Nat), i + m = n → EvI (d + 1) nX4_lacksHolder 4 [(0, .ref 73), (1, .int (b2i (lacks n (M 74) i))), (2, .int (nI i))] [] M h D Q
  | 0, i, hi => by
    refine R_X4_lacksHolder_4 ⟨vpl (by decide), ?_⟩
    rw [z_clamp, h0]
    refine ⟨fun _ => ⟨b2i_01 _, ?_⟩, fun c => absurd ((nI_leI (by omega) (by omega)).mpr (by omega)) c⟩
    rw [show i = n by omega]; exact hQ
  | m + 1, i, hi => by
    refine R_X4_lacksHolder_4 ⟨vpl (by decide), ?_⟩
    rw [z_clamp, h0]
    refine ⟨fun c => absurd ((nI_leI (by omega) (by omega)).mp c) (by omega), fun _ => ?_⟩
    rw [nI_1]
    have hh := l_lacksHolder h0 hn hQ m (i + 1) (by omega)
    unfold lacks lack1 at hh
    cases hl : lacks n (M 74) i
    · rw [hl, Bool.false_or] at hh
      refine ⟨fun z => absurd rfl z, fun _ => t_d ⟨dvp (by omega) (by decide), ?_⟩⟩
      rw [dcl (by omega) (by decide)]
      refine ⟨fun c => ?_, fun c => t_d ⟨dvp (by omega) (by decide), vpl (by decide), ?_⟩⟩
      · rw [show (fd (M 74) i 1 == 2) = false by simpa using c] at hh; exact hh
      · rw [show (fd (M 74) i 1 == 2) = true by simpa using c, Bool.true_and] at hh
        rw [dcl (by omega) (by decide), h0]
        refine ⟨fun c2 => ?_, fun c2 => ?_⟩
        · rw [decide_eq_false (Int32.not_le.mpr c2)] at hh; exact hh
        · rw [decide_eq_true (Int32.not_lt.mp c2)] at hh; exact hh
    · rw [hl, Bool.true_or] at hh
      exact ⟨fun _ => hh, fun z => absurd (by decide) z⟩
theorem t_lacksHolder (h0 : M 74 0 = nI n) (hn : n ≤ 16) (hQ : Q (b2i (lacks n (M 74) n)) M h D) : CI (d + 2) nX4_lacksHolder [.ref 73] M h D Q :=
  ci_of rfl rfl (R_X4_lacksHolder_0 (l_lacksHolder h0 hn hQ n 0 (by omega)))
end M2

/-! THE MODEL's methods, 1: reads. The state is the row a = M 74 -/
abbrev V : Type := Nat → Int32
/-- the drawers of a row: field j of drawer k -/
abbrev fd (a : V) (k j : Nat) : Int32 := a (40 + 8 * k + j)
/-- field j of thing t -/
abbrev ft (a : V) (t j : Nat) : Int32 := a (4 + 3 * t + j)
/-- whether all drawers from x on outwards are open -/
def rch (a : V) : Nat → Int32 → Bool
  | 0, _ => true
  | n + 1, x => if x = -5 then true else (fd a x.toNatClampNeg 6 == 1) && rch a n (fd a x.toNatClampNeg 0)
/-- drawer k can be reached -/
def rchd (a : V) (k : Nat) : Bool := rch a 16 (fd a k 0)
/-- what is always so of a row with n drawers: the places of drawers and things -/
def outOk (n : Nat) (a : V) : Prop := ∀ k, k < n → fd a k 0 = -5 ∨ ∃ j, j < k ∧ fd a k 0 = nI j
theorem rch_st {a : V} {n : Nat} (ho : outOk n a) (hn : n ≤ 16) : ∀ (m1 m2 : Nat) (x : Int32), (x = -5 ∨ ∃ j, j < n ∧ j < m1 ∧ j < m2 ∧ x = nI j) → 0 < m1 → 0 < m2 → rch a m1 x = rch a m2 x
  | 0, _, _, _, h, _ => absurd h (by omega)
  | _, 0, _, _, _, h => absurd h (by omega)
  | m1 + 1, m2 + 1, x, hx, _, _ => by
    unfold rch
    rcases hx with rfl | ⟨j, hj, h1, h2, rfl⟩
    · simp
    · have h5 := m5_ne j (by omega)
      rw [if_neg h5, if_neg h5, kcl (by omega)]
      congr 1
      rcases ho j hj with e | ⟨i, hi, e⟩
      · rw [e]
        cases m1 <;> cases m2 <;> simp [rch]
      · rw [e]
        exact rch_st ho hn m1 m2 _ (Or.inr ⟨i, by omega, by omega, by omega, rfl⟩) (by omega) (by omega)
theorem vpl {k n : Nat} (h : k < n) (hn : n < 2 ^ 31 := by decide) : vp_in (OfNat.ofNat k : Int32) n := vp_in_nI h hn
section M1
variable {d n : Nat} {M : Im} {h : Hm} {D : Dm} {Q : Int32 → Im → Hm → Dm → Prop}
theorem t_d {k : Nat} (hQ : Q (nI (40 + 8 * k)) M h D) : CI (d + 1) nX4_d [.int (nI k)] M h D Q := ci_of rfl rfl (R_X4_d_0 (by rw [d_ix]; exact hQ))
theorem t_t {k : Nat} (hQ : Q (nI (4 + 3 * k)) M h D) : CI (d + 1) nX4_t [.int (nI k)] M h D Q := ci_of rfl rfl (R_X4_t_0 (by rw [t_ix]; exact hQ))
theorem t_in {v lo hi : Int32} (h1 : lo ≤ v ∧ v ≤ hi → Q 1 M h D) (h0 : ¬ (lo ≤ v ∧ v ≤ hi) → Q 0 M h D) : CI (d + 1) nX4_in [.int v, .int lo, .int hi] M h D Q := by
  refine ci_of rfl rfl (R_X4_in_0 ⟨fun c => h0 ?_, fun c => ⟨fun c2 => h0 ?_, fun c2 => h1 ?_⟩⟩)
  · exact fun z => absurd c (Int32.not_lt.mpr z.1)
  · exact fun z => absurd c2 (Int32.not_lt.mpr z.2)
  · exact ⟨Int32.not_lt.mp c, Int32.not_lt.mp c2⟩
theorem dr_in {v : Int32} (hn : n ≤ 16) : (0 ≤ v ∧ v ≤ nI n - 1) ↔ ∃ k, k < n ∧ v = nI k := by
  have e : (nI n - 1).toInt = (n : Int) - 1 := by
    have h1 := pk_sub_toInt (a := n) (b := 1) (by omega) (by decide)
    exact h1
  constructor
  · rintro ⟨h0, h1⟩
    obtain ⟨j, hj, rfl⟩ := nI_of (Int32.not_lt.mpr h0)
    refine ⟨j, ?_, rfl⟩
    have h2 := Int32.le_iff_toInt_le.mp h1
    rw [e, nI_toInt hj] at h2
    omega
  · rintro ⟨k, hk, rfl⟩
    refine ⟨nI_pos' (by omega), Int32.le_iff_toInt_le.mpr ?_⟩
    rw [e, nI_toInt (by omega)]
    omega
theorem t_isDrawer {v : Int32} (h0 : M 74 0 = nI n) (hn : n ≤ 16) (k1 : ∀ k, k < n → v = nI k → Q 1 M h D) (k0 : (¬ ∃ k, k < n ∧ v = nI k) → Q 0 M h D) : CI (d + 2) nX4_isDrawer [.ref 73, .int v] M h D Q := by
  refine ci_of rfl rfl (R_X4_isDrawer_0 ⟨vpl (by decide), ?_⟩)
  rw [z_clamp, h0]
  refine t_in (fun c => ?_) (fun c => ?_)
  · obtain ⟨k, hk, e⟩ := (dr_in hn).mp c
    exact ⟨Or.inr rfl, k1 k hk e⟩
  · exact ⟨Or.inl rfl, k0 (fun z => c ((dr_in hn).mpr z))⟩
theorem t_isGame (k1 : M 74 1 = 1 → Q 1 M h D) (k0 : ¬ M 74 1 = 1 → Q 0 M h D) : CI (d + 1) nX4_isGame [.ref 73] M h D Q := by
  refine ci_of rfl rfl (R_X4_isGame_0 ⟨vpl (by decide), fun c => ?_, fun c => ?_⟩)
  · rw [o_clamp] at c; exact k0 c
  · rw [o_clamp] at c; exact k1 (Classical.not_not.mp c)
theorem l_isReached {v1 : Int32} (ho : outOk n (M 74)) (hn : n ≤ 16) : ∀ (m : Nat) (v2 x : Int32), (v2 = 0 ∨ v2 = 1) → (x = -5 ∨ ∃ j, j < n ∧ j < m ∧ x = nI j) → 0 < m → Q (b2i ((v2 == 1) && rch (M 74) m x)) M h D → EvI (d + 1) nX4_isReached 14 [(0, .ref 73), (1, .int v1), (2, .int v2), (3, .int x)] [] M h D Q
  | 0, _, _, _, _, hm, _ => absurd hm (by omega)
  | m + 1, v2, x, h2, hx, _, hQ => by
    refine R_X4_isReached_14 ⟨fun c => ⟨h2, ?_⟩, fun c => ?_⟩
    · unfold rch at hQ
      rw [if_pos c] at hQ
      rcases h2 with rfl | rfl <;> simpa [b2i] using hQ
    · rcases hx with e | ⟨j, hj, hjm, rfl⟩
      · exact absurd e c
      have hnext : fd (M 74) j 0 = -5 ∨ ∃ i, i < n ∧ i < m ∧ fd (M 74) j 0 = nI i := by
        rcases ho j hj with e | ⟨i, hi, e⟩
        · exact Or.inl e
        · exact Or.inr ⟨i, by omega, by omega, e⟩
      have hm0 : 0 < m ∨ (m = 0 ∧ fd (M 74) j 0 = -5) := by
        rcases hnext with e | ⟨i, _, hi, _⟩
        · by_cases hm : m = 0
          · exact Or.inr ⟨hm, e⟩
          · exact Or.inl (by omega)
        · exact Or.inl (by omega)
      unfold rch at hQ
      rw [if_neg c, kcl (by omega)] at hQ
      have go : ∀ v3 : Int32, (v3 = 0 ∨ v3 = 1) → Q (b2i ((v3 == 1) && rch (M 74) m (fd (M 74) j 0))) M h D → EvI (d + 1) nX4_isReached 14 [(0, .ref 73), (1, .int v1), (2, .int v3), (3, .int (fd (M 74) j 0))] [] M h D Q := by
        intro v3 h3 hq
        rcases hm0 with hm | ⟨hm, e⟩
        · exact l_isReached ho hn m v3 _ h3 hnext hm hq
        · subst hm
          rw [e] at hq ⊢
          refine R_X4_isReached_14 ⟨fun _ => ⟨h3, ?_⟩, fun z => absurd rfl z⟩
          rcases h3 with rfl | rfl <;> simpa [b2i, rch] using hq
      refine ⟨fun c2 => ?_, fun c2 => ?_⟩
      · subst c2
        refine t_d ⟨dvp (by omega) (by decide), ?_⟩
        rw [dcl (by omega) (by decide)]
        exact go 0 (Or.inl rfl) (by simpa [b2i] using hQ)
      · have e2 : v2 = 1 := h2.resolve_left c2
        subst e2
        refine t_d ⟨dvp (by omega) (by decide), fun c3 => ?_, fun c3 => ?_⟩
        · rw [dcl (by omega) (by decide)] at c3
          refine t_d ⟨dvp (by omega) (by decide), ?_⟩
          rw [dcl (by omega) (by decide)]
          refine go 0 (Or.inl rfl) ?_
          have : (fd (M 74) j 6 == 1) = false := by simpa using c3
          rw [this] at hQ
          simpa [b2i] using hQ
        · rw [dcl (by omega) (by decide)] at c3
          refine t_d ⟨dvp (by omega) (by decide), ?_⟩
          rw [dcl (by omega) (by decide)]
          refine go 1 (Or.inr rfl) ?_
          have : (fd (M 74) j 6 == 1) = true := by simpa using c3
          rw [this] at hQ
          simpa [b2i] using hQ
theorem t_isReached {k : Nat} (ho : outOk n (M 74)) (hn : n ≤ 16) (hk : k < n) (hQ : Q (b2i (rchd (M 74) k)) M h D) : CI (d + 2) nX4_isReached [.ref 73, .int (nI k)] M h D Q := by
  refine ci_of rfl rfl (R_X4_isReached_0 (t_d ⟨dvp (by omega) (by decide), ?_⟩))
  rw [dcl (by omega) (by decide)]
  refine l_isReached ho hn 16 1 _ (Or.inr rfl) ?_ (by decide) (by rw [show ((1 : Int32) == 1) = true from rfl, Bool.true_and]; exact hQ)
  rcases ho k hk with e | ⟨i, hi, e⟩
  · exact Or.inl e
  · exact Or.inr ⟨i, by omega, by omega, e⟩
/-- whether the hold lets drawer k be opened -/
def lets (a : V) (k : Nat) : Bool := if fd a k 1 = 1 then ft a (fd a k 2).toNatClampNeg 2 == 1 else if fd a k 1 = 2 then fd a (fd a k 2).toNatClampNeg 6 == 1 else true
def canO (a : V) (k : Nat) : Bool := (fd a k 6 == 0) && (rchd a k && lets a k)
def canL (a : V) (k : Nat) : Bool := (fd a k 6 == 1) && (rchd a k && (decide (fd a k 5 < fd a k 4) && (ft a 10 2 == 1)))
def canT (a : V) (t : Nat) : Bool := if ft a t 2 = 1 then false else if ft a t 0 = -5 then ft a t 2 == 0 else (fd a (ft a t 0).toNatClampNeg 6 == 1) && (rchd a (ft a t 0).toNatClampNeg && decide (ft a t 1 ≤ fd a (ft a t 0).toNatClampNeg 5))
/-- keys and holders are in range -/
def byOk (n : Nat) (a : V) : Prop := ∀ k, k < n → (fd a k 1 = 1 → ∃ j, j < 10 ∧ fd a k 2 = nI j) ∧ (fd a k 1 = 2 → ∃ j, j < 16 ∧ fd a k 2 = nI j)
/-- things lie on the table or in drawers -/
def thOk (n : Nat) (a : V) : Prop := ∀ t, t < 12 → ft a t 0 = -5 ∨ ∃ k, k < n ∧ ft a t 0 = nI k
theorem t_canOpen {k : Nat} (ho : outOk n (M 74)) (hb : byOk n (M 74)) (hn : n ≤ 16) (hk : k < n) (hQ : Q (b2i (canO (M 74) k)) M h D) : CI (d + 3) nX4_canOpen [.ref 73, .int (nI k)] M h D Q := by
  have hk16 : k < 16 := by omega
  have fin : ∀ s0 : Int32, s0 = b2i (lets (M 74) k) → EvI (d + 2) nX4_canOpen 82 [(0, .ref 73), (1, .int (nI k)), (2, .int (nI (40 + 8 * k))), (3, .int (M 74 (40 + 8 * k + 2)))] [.int s0] M h D Q := by
    rintro s0 rfl
    refine R_X4_canOpen_82 ⟨dvp hk16 (by decide), ?_⟩
    rw [dcl hk16 (by decide)]
    refine ⟨fun c => ?_, fun c => ?_⟩
    · have e : (fd (M 74) k 6 == 0) = false := by simpa using c
      unfold canO at hQ
      rw [e] at hQ
      exact hQ
    · have e : (fd (M 74) k 6 == 0) = true := by simpa using c
      unfold canO at hQ
      rw [e, Bool.true_and] at hQ
      refine t_isReached ho hn hk ?_
      cases hr : rchd (M 74) k
      · rw [hr] at hQ
        exact ⟨fun _ => hQ, fun z => absurd rfl z⟩
      · rw [hr] at hQ
        cases hl : lets (M 74) k
        · rw [hl] at hQ
          exact ⟨fun z => absurd z (by decide), fun _ => ⟨fun _ => hQ, fun z => absurd rfl z⟩⟩
        · rw [hl] at hQ
          exact ⟨fun z => absurd z (by decide), fun _ => ⟨fun z => absurd z (by decide), fun _ => hQ⟩⟩
  refine ci_of rfl rfl (R_X4_canOpen_0 (t_d ⟨dvp hk16 (by decide), dvp hk16 (by decide), ?_⟩))
  rw [dcl hk16 (by decide), dcl hk16 (by decide)]
  refine ⟨fun c => ⟨dvp hk16 (by decide), fun c2 => fin 1 ?_, fun c2 => ?_⟩, fun c => ?_⟩
  · unfold lets; rw [if_neg c, if_neg c2]; rfl
  · have c3 := Classical.not_not.mp c2
    obtain ⟨j, hj, e⟩ := (hb k hk).2 c3
    have fin1 := fin
    have e9 : M 74 (40 + 8 * k + 2) = nI j := e
    rw [e9] at fin1 ⊢
    refine t_d ⟨dvp hj (by decide), ?_⟩
    rw [dcl hj (by decide)]
    refine ⟨fun c4 => fin1 0 ?_, fun c4 => fin1 1 ?_⟩
    · unfold lets; rw [if_neg c, if_pos c3, e, kcl hj]
      have : (fd (M 74) j 6 == 1) = false := by simpa using c4
      rw [this]; rfl
    · unfold lets; rw [if_neg c, if_pos c3, e, kcl hj]
      have : (fd (M 74) j 6 == 1) = true := by simpa using c4
      rw [this]; rfl
  · have c3 := Classical.not_not.mp c
    obtain ⟨j, hj, e⟩ := (hb k hk).1 c3
    have fin1 := fin
    have e9 : M 74 (40 + 8 * k + 2) = nI j := e
    rw [e9] at fin1 ⊢
    refine t_t ⟨tvp (by omega) (by decide), ?_⟩
    rw [tcl (by omega) (by decide)]
    refine ⟨fun c4 => fin1 0 ?_, fun c4 => fin1 1 ?_⟩
    · unfold lets; rw [if_pos c3, e, kcl (by omega)]
      have : (ft (M 74) j 2 == 1) = false := by simpa using c4
      rw [this]; rfl
    · unfold lets; rw [if_pos c3, e, kcl (by omega)]
      have : (ft (M 74) j 2 == 1) = true := by simpa using c4
      rw [this]; rfl
theorem t_t10 (hQ : Q (nI (4 + 3 * 10)) M h D) : CI (d + 1) nX4_t [.int 10] M h D Q := t_t (k := 10) hQ
theorem t_t11 (hQ : Q (nI (4 + 3 * 11)) M h D) : CI (d + 1) nX4_t [.int 11] M h D Q := t_t (k := 11) hQ
theorem t_canLift {k : Nat} (ho : outOk n (M 74)) (hn : n ≤ 16) (hk : k < n) (hQ : Q (b2i (canL (M 74) k)) M h D) : CI (d + 3) nX4_canLift [.ref 73, .int (nI k)] M h D Q := by
  have hk16 : k < 16 := by omega
  unfold canL at hQ
  refine ci_of rfl rfl (R_X4_canLift_0 (t_d ⟨dvp hk16 (by decide), ?_⟩))
  rw [dcl hk16 (by decide)]
  refine ⟨fun c => ?_, fun c => t_isReached ho hn hk ?_⟩
  · rw [show (fd (M 74) k 6 == 1) = false by simpa using c] at hQ; exact hQ
  · rw [show (fd (M 74) k 6 == 1) = true by simpa using c, Bool.true_and] at hQ
    cases hr : rchd (M 74) k
    · rw [hr] at hQ; exact ⟨fun _ => hQ, fun z => absurd rfl z⟩
    · rw [hr, Bool.true_and] at hQ
      refine ⟨fun z => absurd z (by decide), fun _ => ⟨dvp hk16 (by decide), dvp hk16 (by decide), ?_⟩⟩
      rw [dcl hk16 (by decide), dcl hk16 (by decide)]
      refine ⟨fun c2 => ?_, fun c2 => ?_⟩
      · rw [decide_eq_false (Int32.not_lt.mpr c2)] at hQ; exact hQ
      · rw [decide_eq_true (Int32.not_le.mp c2), Bool.true_and] at hQ
        refine t_t10 ⟨tvp (by decide) (by decide), ?_⟩
        rw [tcl (by decide) (by decide)]
        refine ⟨fun c3 => ?_, fun c3 => ?_⟩
        · rw [show (ft (M 74) 10 2 == 1) = false by simpa using c3] at hQ; exact hQ
        · rw [show (ft (M 74) 10 2 == 1) = true by simpa using c3] at hQ; exact hQ
theorem t_canTake {t : Nat} (ho : outOk n (M 74)) (hth : thOk n (M 74)) (hn : n ≤ 16) (ht : t < 12) (hQ : Q (b2i (canT (M 74) t)) M h D) : CI (d + 3) nX4_canTake [.ref 73, .int (nI t)] M h D Q := by
  unfold canT at hQ
  refine ci_of rfl rfl (R_X4_canTake_0 (t_t ⟨tvp ht (by decide), ?_⟩))
  rw [tcl ht (by decide)]
  refine ⟨fun c => ⟨tvp ht (by decide), ?_⟩, fun c => ⟨tvp ht (by decide), ?_⟩⟩
  · rw [if_pos c] at hQ
    refine ⟨fun _ => hQ, fun c2 => ?_⟩
    rw [c] at c2
    exact absurd (by decide) c2
  · rw [tcl ht (by decide)]
    rw [if_neg c] at hQ
    refine ⟨fun c2 => ⟨tvp ht (by decide), ?_⟩, fun c2 => ⟨tvp ht (by decide), ?_⟩⟩
    · rw [if_neg c2] at hQ
      obtain ⟨k, hk, e⟩ := (hth t ht).resolve_left c2
      have hk16 : k < 16 := by omega
      rw [e, kcl hk16] at hQ
      rw [show M 74 (4 + 3 * t + 0) = nI k from e]
      refine t_d ⟨dvp hk16 (by decide), ?_⟩
      rw [dcl hk16 (by decide)]
      refine ⟨fun c3 => ?_, fun c3 => t_isReached ho hn hk ?_⟩
      · rw [show (fd (M 74) k 6 == 1) = false by simpa using c3] at hQ; exact hQ
      · rw [show (fd (M 74) k 6 == 1) = true by simpa using c3, Bool.true_and] at hQ
        cases hr : rchd (M 74) k
        · rw [hr] at hQ; exact ⟨fun _ => hQ, fun z => absurd rfl z⟩
        · rw [hr, Bool.true_and] at hQ
          refine ⟨fun z => absurd z (by decide), fun _ => t_d ⟨dvp hk16 (by decide), tvp ht (by decide), ?_⟩⟩
          rw [dcl hk16 (by decide), tcl ht (by decide)]
          refine ⟨fun c4 => ?_, fun c4 => ?_⟩
          · rw [decide_eq_false (Int32.not_le.mpr c4)] at hQ; exact hQ
          · rw [decide_eq_true (Int32.not_lt.mp c4)] at hQ; exact hQ
    · rw [if_pos (Classical.not_not.mp c2)] at hQ
      refine ⟨fun c3 => ?_, fun c3 => ?_⟩
      · rw [show (ft (M 74) t 2 == 0) = false by simpa using c3] at hQ; exact hQ
      · rw [show (ft (M 74) t 2 == 0) = true by simpa using c3] at hQ; exact hQ
end M1

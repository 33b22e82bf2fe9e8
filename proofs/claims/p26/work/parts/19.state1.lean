/-! THE CLASS's State, 1: reads. It stands for a row a and quarters q -/
def RS (M : Im) (S : Nat) (a : V) (q : Nat) : Prop :=
  M S 0 = a 0 ∧ M S 1 = a 1 ∧ M S 2 = a 2 ∧ M S 3 = nI q ∧ bset (M S 4) 16 (fun k => fd a k 6 == 1) ∧ bset (M S 5) 16 (fun k => fd a k 7 == 1) ∧ bset (M S 6) 12 (fun t => ft a t 2 == 1) ∧
  (∀ k, k < 16 → M (S + 1) k = fd a k 0 ∧ M (S + 2) k = fd a k 1 ∧ M (S + 3) k = fd a k 2 ∧ M (S + 4) k = fd a k 3 ∧ M (S + 5) k = fd a k 4 ∧ M (S + 6) k = fd a k 5) ∧
  (∀ t, t < 12 → M (S + 7) t = ft a t 0 ∧ M (S + 8) t = ft a t 1)
/-- open, broken and in hand are 0 or 1 -/
def zoOk (a : V) : Prop := (∀ k, k < 16 → (fd a k 6 = 0 ∨ fd a k 6 = 1) ∧ (fd a k 7 = 0 ∨ fd a k 7 = 1)) ∧ ∀ t, t < 12 → ft a t 2 = 0 ∨ ft a t 2 = 1
theorem b2i_if {b : Bool} {A B : Prop} (h0 : b = false → A) (h1 : b = true → B) : ((b2i b = 0) → A) ∧ (¬ (b2i b = 0) → B) := by
  cases b
  · exact ⟨fun _ => h0 rfl, fun z => absurd rfl z⟩
  · exact ⟨fun z => absurd z (by decide), fun _ => h1 rfl⟩
theorem b2i_ifn {b : Bool} {A B : Prop} (h1 : b = true → A) (h0 : b = false → B) : ((¬ (b2i b = 0)) → A) ∧ (¬ (¬ (b2i b = 0)) → B) := by
  cases b
  · exact ⟨fun z => absurd rfl z, fun _ => h0 rfl⟩
  · exact ⟨fun _ => h1 rfl, fun z => absurd (by decide) z⟩
theorem nn_if {p A B : Prop} (h1 : ¬ p → A) (h2 : p → B) : ((¬ p) → A) ∧ (¬ (¬ p) → B) := ⟨h1, fun z => h2 (Classical.not_not.mp z)⟩
section S1
variable {d n S q : Nat} {M : Im} {h : Hm} {D : Dm} {a : V} {Q : Int32 → Im → Hm → Dm → Prop}
theorem t_isThere {v : Int32} (hS : St S) (h0 : M S 0 = nI n) (hn : n ≤ 16) (k1 : ∀ k, k < n → v = nI k → Q 1 M h D) (k0 : (¬ ∃ k, k < n ∧ v = nI k) → Q 0 M h D) : CI (d + 1) nX2_isThere [.ref S, .int v] M h D Q := by
  refine ci_of rfl rfl (R_X2_isThere_0 hS ?_)
  rw [h0]
  refine ⟨fun c => k0 ?_, fun c => ⟨fun c2 => k0 ?_, fun c2 => ?_⟩⟩
  · rintro ⟨k, hk, rfl⟩; exact absurd c (nI_pos (by omega))
  · rintro ⟨k, hk, rfl⟩; exact absurd ((nI_leI (by omega) (by omega)).mp c2) (by omega)
  · obtain ⟨j, hj, rfl⟩ := nI_of c
    exact k1 j (by
      rcases Nat.lt_or_ge j n with z | z
      · exact z
      · exact absurd ((nI_leI (by omega) hj).mpr z) c2) rfl
/-- a place of a drawer or none -/
theorem t_isThere' {v : Int32} (hS : St S) (h0 : M S 0 = nI n) (hn : n ≤ 16) (hv : v = -5 ∨ ∃ k, k < n ∧ v = nI k) (k1 : ¬ v = -5 → Q 1 M h D) (k0 : v = -5 → Q 0 M h D) : CI (d + 1) nX2_isThere [.ref S, .int v] M h D Q :=
  t_isThere hS h0 hn (fun k hk e => k1 (by rw [e]; exact m5_ne k (by omega))) (fun c => k0 (hv.resolve_right c))
theorem t_isOpen {k : Nat} (hS : St S) (hR : RS M S a q) (hk : k < 16) (hQ : Q (b2i (fd a k 6 == 1)) M h D) : CI (d + 1) nX2_isOpen [.ref S, .int (nI k)] M h D Q := by
  refine ci_of rfl rfl (R_X2_isOpen_0 hS ?_)
  have ht := bs_test hR.2.2.2.2.1 hk (by decide)
  refine ⟨fun c => ?_, fun c => ?_⟩
  · rw [ht.mp c] at hQ; exact hQ
  · rw [show (fd a k 6 == 1) = true by
      cases hb : (fd a k 6 == 1)
      · exact absurd (ht.mpr hb) c
      · rfl] at hQ
    exact hQ
theorem t_isInHand {t : Nat} (hS : St S) (hR : RS M S a q) (ht : t < 12) (hQ : Q (b2i (ft a t 2 == 1)) M h D) : CI (d + 1) nX2_isInHand [.ref S, .int (nI t)] M h D Q := by
  refine ci_of rfl rfl (R_X2_isInHand_0 hS ?_)
  have hb := bs_test hR.2.2.2.2.2.2.1 ht (by decide)
  refine ⟨fun c => ?_, fun c => ?_⟩
  · rw [hb.mp c] at hQ; exact hQ
  · rw [show (ft a t 2 == 1) = true by
      cases hx : (ft a t 2 == 1)
      · exact absurd (hb.mpr hx) c
      · rfl] at hQ
    exact hQ
theorem lS_isReached {v1 : Int32} (hS : St S) (hR : RS M S a q) (h0 : a 0 = nI n) (ho : outOk n a) (hn : n ≤ 16) : ∀ (m i : Nat) (x : Int32), i + m = 16 → (x = -5 ∨ ∃ j, j < n ∧ j < m ∧ x = nI j) → Q (b2i (rch a m x)) M h D → EvI (d + 1) nX2_isReached 9 [(0, .ref S), (1, .int v1), (2, .int x), (3, .int (nI i))] [] M h D Q
  | 0, i, x, hi, hx, hQ => R_X2_isReached_9 hS ⟨fun _ => hQ, fun c => absurd ((nI_leI (a := 16) (by omega) (by omega)).mpr (by omega)) c⟩
  | m + 1, i, x, hi, hx, hQ => by
    refine R_X2_isReached_9 hS ⟨fun c => absurd ((nI_leI (a := 16) (by omega) (by omega)).mp c) (by omega), fun _ => ?_⟩
    unfold rch at hQ
    refine t_isThere' hS (hR.1.trans h0) hn (hx.imp id (fun ⟨j, z, _, e⟩ => ⟨j, z, e⟩)) (fun c => ⟨fun z => absurd z (by decide), fun _ => ?_⟩) (fun c => ⟨fun _ => ?_, fun z => absurd rfl z⟩)
    · obtain ⟨j, hj, hjm, rfl⟩ := hx.resolve_left c
      have hj16 : j < 16 := by omega
      rw [if_neg c, kcl hj16] at hQ
      refine t_isOpen hS hR hj16 (b2i_ifn (fun e => ⟨kvp hj16 (by decide), ?_⟩) (fun e => ?_))
      · rw [e, Bool.true_and] at hQ
        rw [kcl hj16, (hR.2.2.2.2.2.2.2.1 j hj16).1, nI_1]
        refine lS_isReached hS hR h0 ho hn m (i + 1) _ (by omega) ?_ hQ
        rcases ho j hj with z | ⟨i2, hi2, z⟩
        · exact Or.inl z
        · exact Or.inr ⟨i2, by omega, by omega, z⟩
      · rw [e] at hQ; exact hQ
    · rw [if_pos c] at hQ; exact hQ
theorem tS_isReached {k : Nat} (hS : St S) (hR : RS M S a q) (h0 : a 0 = nI n) (ho : outOk n a) (hn : n ≤ 16) (hk : k < n) (hQ : Q (b2i (rchd a k)) M h D) : CI (d + 2) nX2_isReached [.ref S, .int (nI k)] M h D Q := by
  refine ci_of rfl rfl (R_X2_isReached_0 hS ⟨kvp (by omega) (by decide), ?_⟩)
  rw [kcl (by omega), (hR.2.2.2.2.2.2.2.1 k (by omega)).1]
  refine lS_isReached hS hR h0 ho hn 16 0 _ (by omega) ?_ hQ
  rcases ho k hk with e | ⟨i, hi, e⟩
  · exact Or.inl e
  · exact Or.inr ⟨i, by omega, by omega, e⟩
theorem t_isLetByHold {k : Nat} (hS : St S) (hR : RS M S a q) (hb : byOk n a) (hn : n ≤ 16) (hk : k < n) (hQ : Q (b2i (lets a k)) M h D) : CI (d + 2) nX2_isLetByHold [.ref S, .int (nI k)] M h D Q := by
  have hk16 : k < 16 := by omega
  obtain ⟨-, e2, e3, -⟩ := hR.2.2.2.2.2.2.2.1 k hk16
  unfold lets at hQ
  refine ci_of rfl rfl (R_X2_isLetByHold_0 hS ⟨kvp hk16 (by decide), ?_⟩)
  rw [kcl hk16, e2, e3]
  refine ⟨fun c => ⟨kvp hk16 (by decide), ?_⟩, fun c => ⟨kvp hk16 (by decide), ?_⟩, fun c1 c2 => ?_⟩
  · obtain ⟨j, hj, e⟩ := (hb k hk).1 c
    rw [if_pos c, e, kcl (by omega)] at hQ
    rw [e]
    exact t_isInHand hS hR (by omega) ⟨b2i_01 _, hQ⟩
  · obtain ⟨j, hj, e⟩ := (hb k hk).2 c
    rw [if_neg (by rw [c]; decide), if_pos c, e, kcl hj] at hQ
    rw [e]
    exact t_isOpen hS hR hj ⟨b2i_01 _, hQ⟩
  · rw [if_neg c1, if_neg c2] at hQ; exact hQ
theorem tS_canOpen {k : Nat} (hS : St S) (hR : RS M S a q) (h0 : a 0 = nI n) (ho : outOk n a) (hb : byOk n a) (hz : zoOk a) (hn : n ≤ 16) (hk : k < n) (hQ : Q (b2i (canO a k)) M h D) : CI (d + 3) nX2_canOpen [.ref S, .int (nI k)] M h D Q := by
  have hk16 : k < 16 := by omega
  unfold canO at hQ
  refine ci_of rfl rfl (R_X2_canOpen_0 hS (t_isOpen hS hR hk16 (b2i_ifn (fun e => ?_) (fun e => ?_))))
  · rw [show (fd a k 6 == 0) = false by
      have := (beq_iff_eq.mp e : fd a k 6 = 1)
      rw [this]; rfl] at hQ
    exact hQ
  · rw [show (fd a k 6 == 0) = true by
      rcases (hz.1 k hk16).1 with z | z
      · rw [z]; rfl
      · rw [z] at e; exact absurd e (by decide), Bool.true_and] at hQ
    refine tS_isReached hS hR h0 ho hn hk (b2i_if (fun e => ?_) (fun e => t_isLetByHold hS hR hb hn hk (b2i_if (fun e2 => ?_) (fun e2 => ?_))))
    · rw [e] at hQ; exact hQ
    · rw [e, e2] at hQ; exact hQ
    · rw [e, e2] at hQ; exact hQ
theorem t_hasBottomLeft {k : Nat} (hS : St S) (hR : RS M S a q) (hk : k < 16) (hQ : Q (b2i (decide (fd a k 5 < fd a k 4))) M h D) : CI (d + 1) nX2_hasBottomLeft [.ref S, .int (nI k)] M h D Q := by
  obtain ⟨-, -, -, -, e5, e6⟩ := hR.2.2.2.2.2.2.2.1 k hk
  refine ci_of rfl rfl (R_X2_hasBottomLeft_0 hS ⟨kvp hk (by decide), kvp hk (by decide), ?_⟩)
  rw [kcl hk, e5, e6]
  refine ⟨fun c => ?_, fun c => ?_⟩
  · rw [decide_eq_false (Int32.not_lt.mpr c)] at hQ; exact hQ
  · rw [decide_eq_true (Int32.not_le.mp c)] at hQ; exact hQ
theorem tS_canLift {k : Nat} (hS : St S) (hR : RS M S a q) (h0 : a 0 = nI n) (ho : outOk n a) (hn : n ≤ 16) (hk : k < n) (hQ : Q (b2i (canL a k)) M h D) : CI (d + 3) nX2_canLift [.ref S, .int (nI k)] M h D Q := by
  have hk16 : k < 16 := by omega
  unfold canL at hQ
  refine ci_of rfl rfl (R_X2_canLift_0 hS (t_hasBottomLeft hS hR hk16 (b2i_if (fun e1 => ?_) (fun e1 => t_isOpen hS hR hk16 (b2i_if (fun e2 => ?_) (fun e2 => tS_isReached hS hR h0 ho hn hk (b2i_if (fun e3 => ?_) (fun e3 => t_isInHand (t := 10) hS hR (by decide) (b2i_if (fun e4 => ?_) (fun e4 => ?_))))))))))
  · rw [e1, Bool.false_and, Bool.and_false, Bool.and_false] at hQ; exact hQ
  · rw [e2] at hQ; exact hQ
  · rw [e3, Bool.false_and, Bool.and_false] at hQ; exact hQ
  · rw [e4, Bool.and_false, Bool.and_false, Bool.and_false] at hQ; exact hQ
  · rw [e1, e2, e3, e4] at hQ; exact hQ
theorem tS_canTake {t : Nat} (hS : St S) (hR : RS M S a q) (h0 : a 0 = nI n) (ho : outOk n a) (hth : thOk n a) (hz : zoOk a) (hn : n ≤ 16) (ht : t < 12) (hQ : Q (b2i (canT a t)) M h D) : CI (d + 3) nX2_canTake [.ref S, .int (nI t)] M h D Q := by
  obtain ⟨e7, e8⟩ := hR.2.2.2.2.2.2.2.2 t ht
  unfold canT at hQ
  refine ci_of rfl rfl (R_X2_canTake_0 hS (t_isInHand hS hR ht (b2i_if (fun e1 => ⟨kvp ht (by decide), ?_⟩) (fun e1 => ?_))))
  · have c1 : ¬ ft a t 2 = 1 := by simpa using e1
    rw [if_neg c1] at hQ
    rw [nI_clamp (by omega), e7]
    refine t_isThere' hS (hR.1.trans h0) hn (hth t ht) (fun c => ⟨fun _ => ?_, fun z => absurd (by decide) z⟩) (fun c => ⟨fun z => absurd rfl z, fun _ => ?_⟩)
    · rw [if_neg c] at hQ
      obtain ⟨k, hk, e⟩ := (hth t ht).resolve_left c
      have hk16 : k < 16 := by omega
      rw [e, kcl hk16] at hQ
      rw [e]
      refine t_isOpen hS hR hk16 (b2i_if (fun e2 => ?_) (fun e2 => tS_isReached hS hR h0 ho hn hk (b2i_if (fun e3 => ?_) (fun e3 => ⟨kvp hk16 (by decide), kvp ht (by decide), ?_⟩))))
      · rw [e2] at hQ; exact hQ
      · rw [e3, Bool.false_and, Bool.and_false] at hQ; exact hQ
      · rw [kcl hk16, (hR.2.2.2.2.2.2.2.1 k hk16).2.2.2.2.2, e8]
        rw [e2, e3] at hQ
        refine ⟨fun c4 => ?_, fun c4 => ?_⟩
        · rw [decide_eq_false (Int32.not_le.mpr c4)] at hQ; exact hQ
        · rw [decide_eq_true (Int32.not_lt.mp c4)] at hQ; exact hQ
    · rw [if_pos c, show (ft a t 2 == 0) = true by
        rcases hz.2 t ht with z | z
        · rw [z]; rfl
        · exact absurd z c1] at hQ
      exact hQ
  · rw [if_pos (by simpa using e1)] at hQ; exact hQ
theorem or_0 (x : Int32) : x ||| 0 = x := b_ext (fun i _ => by rw [b_or, b_0, Bool.or_false])
theorem t_bit {k : Nat} (hQ : Q (1 <<< (nI k &&& 31)) M h D) : CI (d + 1) nX3_bit [.int (nI k)] M h D Q := ci_of rfl rfl (R_X3_bit_0 hQ)
theorem t_isIn {x : Int32} {k m : Nat} {p : Nat → Bool} (hx : bset x m p) (hk : k < m) (hm : m ≤ 32) (hQ : Q (b2i (p k)) M h D) : CI (d + 1) nX3_isIn [.int x, .int (nI k)] M h D Q := by
  have ht := bs_test hx hk hm
  refine ci_of rfl rfl (R_X3_isIn_0 ⟨fun c => ?_, fun c => ?_⟩)
  · rw [ht.mp c] at hQ; exact hQ
  · rw [show p k = true by
      cases hb : p k
      · exact absurd (ht.mpr hb) c
      · rfl] at hQ
    exact hQ
theorem zo_0 {a : V} {k : Nat} (hz : zoOk a) (hk : k < 16) (e : (fd a k 6 == 1) = false) : (fd a k 6 == 0) = true := by
  rcases (hz.1 k hk).1 with z | z
  · rw [z]; rfl
  · rw [z] at e; exact absurd e (by decide)
def canS (a : V) (k : Nat) : Bool := (fd a k 7 == 1) && ((fd a k 6 == 0) && (rchd a k && (ft a 11 2 == 1)))
theorem tS_canSeal {k : Nat} (hS : St S) (hR : RS M S a q) (h0 : a 0 = nI n) (ho : outOk n a) (hz : zoOk a) (hn : n ≤ 16) (hk : k < n) (hQ : Q (b2i (canS a k)) M h D) : CI (d + 3) nX2_canSeal [.ref S, .int (nI k)] M h D Q := by
  have hk16 : k < 16 := by omega
  unfold canS at hQ
  refine ci_of rfl rfl (R_X2_canSeal_0 hS (t_isIn hR.2.2.2.2.2.1 hk16 (by decide) (b2i_if (fun e1 => ?_) (fun e1 => t_isOpen hS hR hk16 (b2i_ifn (fun e2 => ?_) (fun e2 => tS_isReached hS hR h0 ho hn hk (b2i_if (fun e3 => ?_) (fun e3 => t_isInHand (t := 11) hS hR (by decide) (b2i_if (fun e4 => ?_) (fun e4 => ?_))))))))))
  · rw [e1] at hQ; exact hQ
  · rw [show (fd a k 6 == 0) = false by
      have := (beq_iff_eq.mp e2 : fd a k 6 = 1)
      rw [this]; rfl, Bool.false_and, Bool.and_false] at hQ
    exact hQ
  · rw [zo_0 hz hk16 e2, e3, Bool.false_and, Bool.and_false, Bool.and_false] at hQ; exact hQ
  · rw [zo_0 hz hk16 e2, e4, Bool.and_false, Bool.and_false, Bool.and_false] at hQ; exact hQ
  · rw [e1, zo_0 hz hk16 e2, e3, e4] at hQ; exact hQ
theorem lS_openableNow (hS : St S) (hR : RS M S a q) (h0 : a 0 = nI n) (ho : outOk n a) (hb : byOk n a) (hz : zoOk a) (hn : n ≤ 16) (hQ : Q (foru (fun k => if canO a k then 1 <<< (nI k &&& 31) else 0) n) M h D) : ∀ (m i : Nat), i + m = n → EvI (d + 3) nX2_openableNow 4 [(0, .ref S), (1, .int (foru (fun k => if canO a k then 1 <<< (nI k &&& 31) else 0) i)), (2, .int (nI i))] [] M h D Q
  | 0, i, hi => by
    refine R_X2_openableNow_4 hS ?_
    rw [hR.1, h0]
    refine ⟨fun _ => ?_, fun c => absurd ((nI_leI (by omega) (by omega)).mpr (by omega)) c⟩
    rw [show i = n by omega]; exact hQ
  | m + 1, i, hi => by
    refine R_X2_openableNow_4 hS ?_
    rw [hR.1, h0]
    have hh := lS_openableNow hS hR h0 ho hb hz hn hQ m (i + 1) (by omega)
    unfold foru at hh
    refine ⟨fun c => absurd ((nI_leI (by omega) (by omega)).mp c) (by omega), fun _ => tS_canOpen hS hR h0 ho hb hz hn (by omega) (b2i_if (fun e => ?_) (fun e => t_bit ?_))⟩
    · rw [e] at hh
      rw [nI_1]
      rw [show (if false = true then (1 : Int32) <<< (nI i &&& 31) else 0) = 0 from rfl, or_0] at hh
      exact hh
    · rw [e] at hh
      rw [nI_1]
      exact hh
theorem tS_openableNow (hS : St S) (hR : RS M S a q) (h0 : a 0 = nI n) (ho : outOk n a) (hb : byOk n a) (hz : zoOk a) (hn : n ≤ 16) (hQ : Q (foru (fun k => if canO a k then 1 <<< (nI k &&& 31) else 0) n) M h D) : CI (d + 4) nX2_openableNow [.ref S] M h D Q :=
  ci_of rfl rfl (R_X2_openableNow_0 hS (lS_openableNow hS hR h0 ho hb hz hn hQ n 0 (by omega)))
theorem lS_countLaid (hS : St S) (hR : RS M S a q) (h0 : a 0 = nI n) (hth : thOk n a) (hn : n ≤ 16) (hQ : Q (fsum (fun t => if ft a t 0 = -5 then 0 else 1) 12) M h D) : ∀ (m i : Nat), i + m = 12 → EvI (d + 1) nX2_countThingsInDrawers 4 [(0, .ref S), (1, .int (fsum (fun t => if ft a t 0 = -5 then 0 else 1) i)), (2, .int (nI i))] [] M h D Q
  | 0, i, hi => by
    refine R_X2_countThingsInDrawers_4 hS ⟨fun _ => ?_, fun c => absurd ((nI_leI (a := 12) (by omega) (by omega)).mpr (by omega)) c⟩
    rw [show i = 12 by omega]; exact hQ
  | m + 1, i, hi => by
    refine R_X2_countThingsInDrawers_4 hS ⟨fun c => absurd ((nI_leI (a := 12) (by omega) (by omega)).mp c) (by omega), fun _ => ⟨kvp (by omega) (by decide), ?_⟩⟩
    have hh := lS_countLaid hS hR h0 hth hn hQ m (i + 1) (by omega)
    unfold fsum at hh
    rw [nI_clamp (by omega), (hR.2.2.2.2.2.2.2.2 i (by omega)).1, nI_1]
    refine t_isThere' hS (hR.1.trans h0) hn (hth i (by omega)) (fun c => ⟨fun z => absurd z (by decide), fun _ => ?_⟩) (fun c => ⟨fun _ => ?_, fun z => absurd rfl z⟩)
    · rw [if_neg c] at hh; exact hh
    · rw [if_pos c, Int32.add_zero] at hh; exact hh
theorem tS_countLaid (hS : St S) (hR : RS M S a q) (h0 : a 0 = nI n) (hth : thOk n a) (hn : n ≤ 16) (hQ : Q (fsum (fun t => if ft a t 0 = -5 then 0 else 1) 12) M h D) : CI (d + 2) nX2_countThingsInDrawers [.ref S] M h D Q :=
  ci_of rfl rfl (R_X2_countThingsInDrawers_0 hS (lS_countLaid hS hR h0 hth hn hQ 12 0 (by omega)))
theorem lS_countIn {v : Int32} (hS : St S) (hR : RS M S a q) (hz : zoOk a) (hQ : Q (fsum (fun t => if ft a t 0 = v ∧ ft a t 2 = 0 then 1 else 0) 12) M h D) : ∀ (m i : Nat), i + m = 12 → EvI (d + 1) nX2_countThingsIn 4 [(0, .ref S), (1, .int v), (2, .int (fsum (fun t => if ft a t 0 = v ∧ ft a t 2 = 0 then 1 else 0) i)), (3, .int (nI i))] [] M h D Q
  | 0, i, hi => by
    refine R_X2_countThingsIn_4 hS ⟨fun _ => ?_, fun c => absurd ((nI_leI (a := 12) (by omega) (by omega)).mpr (by omega)) c⟩
    rw [show i = 12 by omega]; exact hQ
  | m + 1, i, hi => by
    refine R_X2_countThingsIn_4 hS ⟨fun c => absurd ((nI_leI (a := 12) (by omega) (by omega)).mp c) (by omega), fun _ => ⟨kvp (by omega) (by decide), ?_⟩⟩
    have hh := lS_countIn hS hR hz hQ m (i + 1) (by omega)
    unfold fsum at hh
    rw [nI_clamp (by omega), (hR.2.2.2.2.2.2.2.2 i (by omega)).1, nI_1]
    refine nn_if (fun c => ?_) (fun c => t_isInHand hS hR (by omega) (b2i_ifn (fun e => ?_) (fun e => ?_)))
    · rw [if_neg (fun z => c z.1), Int32.add_zero] at hh; exact hh
    · have e' : ft a i 2 = 1 := by simpa using e
      rw [if_neg (fun z => by rw [e'] at z; exact absurd z.2 (by decide)), Int32.add_zero] at hh; exact hh
    · have e' : ft a i 2 = 0 := (hz.2 i (by omega)).resolve_right (by simpa using e)
      rw [if_pos ⟨c, e'⟩] at hh; exact hh
theorem tS_countIn {v : Int32} (hS : St S) (hR : RS M S a q) (hz : zoOk a) (hQ : Q (fsum (fun t => if ft a t 0 = v ∧ ft a t 2 = 0 then 1 else 0) 12) M h D) : CI (d + 2) nX2_countThingsIn [.ref S, .int v] M h D Q :=
  ci_of rfl rfl (R_X2_countThingsIn_0 hS (lS_countIn hS hR hz hQ 12 0 (by omega)))
theorem lS_countOuters {v1 : Int32} (hS : St S) (hR : RS M S a q) (h0 : a 0 = nI n) (ho : outOk n a) (hn : n ≤ 16) : ∀ (m r : Nat) (x : Int32), r + m = 16 → (x = -5 ∨ ∃ j, j < n ∧ j < m ∧ x = nI j) → Q (nI (r + outs a m x)) M h D → EvI (d + 1) nX2_countOuters 9 [(0, .ref S), (1, .int v1), (2, .int x), (3, .int (nI r))] [] M h D Q
  | 0, r, x, hi, hx, hQ => R_X2_countOuters_9 hS ⟨fun _ => hQ, fun c => absurd ((nI_leI (a := 16) (by omega) (by omega)).mpr (by omega)) c⟩
  | m + 1, r, x, hi, hx, hQ => by
    refine R_X2_countOuters_9 hS ⟨fun c => absurd ((nI_leI (a := 16) (by omega) (by omega)).mp c) (by omega), fun _ => ?_⟩
    unfold outs at hQ
    refine t_isThere' hS (hR.1.trans h0) hn (hx.imp id (fun ⟨j, z, _, e⟩ => ⟨j, z, e⟩)) (fun c => ⟨fun z => absurd z (by decide), fun _ => ?_⟩) (fun c => ⟨fun _ => ?_, fun z => absurd rfl z⟩)
    · obtain ⟨j, hj, hjm, rfl⟩ := hx.resolve_left c
      have hj16 : j < 16 := by omega
      rw [if_neg c, kcl hj16] at hQ
      refine ⟨kvp hj16 (by decide), ?_⟩
      rw [kcl hj16, (hR.2.2.2.2.2.2.2.1 j hj16).1, nI_1]
      refine lS_countOuters hS hR h0 ho hn m (r + 1) _ (by omega) ?_ (by rw [Nat.add_assoc]; exact hQ)
      rcases ho j hj with z | ⟨i2, hi2, z⟩
      · exact Or.inl z
      · exact Or.inr ⟨i2, by omega, by omega, z⟩
    · rw [if_pos c] at hQ; exact hQ
theorem tS_countOuters {k : Nat} (hS : St S) (hR : RS M S a q) (h0 : a 0 = nI n) (ho : outOk n a) (hn : n ≤ 16) (hk : k < n) (hQ : Q (nI (outs a 16 (fd a k 0))) M h D) : CI (d + 2) nX2_countOuters [.ref S, .int (nI k)] M h D Q := by
  refine ci_of rfl rfl (R_X2_countOuters_0 hS ⟨kvp (by omega) (by decide), ?_⟩)
  rw [kcl (by omega), (hR.2.2.2.2.2.2.2.1 k (by omega)).1]
  refine lS_countOuters hS hR h0 ho hn 16 0 _ (by omega) ?_ (by rw [Nat.zero_add]; exact hQ)
  rcases ho k hk with e | ⟨i, hi, e⟩
  · exact Or.inl e
  · exact Or.inr ⟨i, by omega, by omega, e⟩
theorem lacks_of {k : Nat} (hl : lack1 n a k = true) : ∀ m, k < m → lacks n a m = true
  | 0, h => absurd h (by omega)
  | m + 1, h => by
    unfold lacks
    by_cases e : k = m
    · subst e; rw [hl, Bool.or_true]
    · rw [lacks_of hl m (by omega), Bool.true_or]
theorem lS_hasAll (hS : St S) (hR : RS M S a q) (h0 : a 0 = nI n) (hb : byOk n a) (hn : n ≤ 16) (hQ : Q (b2i (!lacks n a n)) M h D) : ∀ (m i : Nat), i + m = n → lacks n a i = false → EvI (d + 1) nX2_hasAllHolders 2 [(0, .ref S), (1, .int (nI i))] [] M h D Q
  | 0, i, hi, hl => by
    refine R_X2_hasAllHolders_2 hS ?_
    rw [hR.1, h0]
    refine ⟨fun _ => ?_, fun c => absurd ((nI_leI (by omega) (by omega)).mpr (by omega)) c⟩
    rw [show i = n by omega] at hl
    rw [hl] at hQ; exact hQ
  | m + 1, i, hi, hl => by
    refine R_X2_hasAllHolders_2 hS ?_
    obtain ⟨-, e2, e3, -⟩ := hR.2.2.2.2.2.2.2.1 i (by omega)
    rw [hR.1, h0]
    refine ⟨fun c => absurd ((nI_leI (by omega) (by omega)).mp c) (by omega), fun _ => ⟨kvp (by omega) (by decide), ?_⟩⟩
    rw [kcl (by omega), e2, nI_1]
    have go : lack1 n a i = false → EvI (d + 1) nX2_hasAllHolders 2 [(0, .ref S), (1, .int (nI (i + 1)))] [] M h D Q := fun z => lS_hasAll hS hR h0 hb hn hQ m (i + 1) (by omega) (by unfold lacks; rw [hl, z]; rfl)
    refine nn_if (fun c => go ?_) (fun c => ⟨kvp (by omega) (by decide), ?_⟩)
    · unfold lack1; rw [show (fd a i 1 == 2) = false by simpa using c]; rfl
    · obtain ⟨j, hj, e⟩ := (hb i (by omega)).2 c
      rw [e3, e]
      refine t_isThere hS (hR.1.trans h0) hn (fun k hk ek => ⟨fun _ => go ?_, fun z => absurd (by decide) z⟩) (fun z => ⟨fun c2 => absurd rfl c2, fun _ => ?_⟩)
      · unfold lack1
        rw [e, ek, decide_eq_false (fun z => absurd ((nI_leI (by omega) (by omega)).mp z) (by omega)), Bool.and_false]
      · have hnj : n ≤ j := by
          rcases Nat.lt_or_ge j n with z2 | z2
          · exact absurd ⟨j, z2, rfl⟩ z
          · exact z2
        have : lack1 n a i = true := by
          unfold lack1
          rw [show (fd a i 1 == 2) = true by simpa using c, e, decide_eq_true ((nI_leI (by omega) (by omega)).mpr hnj)]; rfl
        rw [lacks_of this n (by omega)] at hQ
        exact hQ
theorem tS_hasAll (hS : St S) (hR : RS M S a q) (h0 : a 0 = nI n) (hb : byOk n a) (hn : n ≤ 16) (hQ : Q (b2i (!lacks n a n)) M h D) : CI (d + 2) nX2_hasAllHolders [.ref S] M h D Q :=
  ci_of rfl rfl (R_X2_hasAllHolders_0 hS (lS_hasAll hS hR h0 hb hn hQ n 0 (by omega) rfl))
end S1

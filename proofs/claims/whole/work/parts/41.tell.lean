/-! drawer, thing, on both sides -/
theorem nin {w : Int32} {m : Nat} (hm : m < 2 ^ 31) (h : w.toInt < 0 ∨ (m : Int) < w.toInt) : ¬ (0 ≤ w ∧ w ≤ nI m) := fun z => by
  have h1 := Int32.le_iff_toInt_le.mp z.1
  have h2 := Int32.le_iff_toInt_le.mp z.2
  rw [nI_toInt hm] at h2
  rw [show (0 : Int32).toInt = 0 by decide] at h1
  omega
theorem foru_w {f g : Nat → Int32} {m : Nat} (h : ∀ i, i < m → f i = g i) : foru f m = foru g m := by
  induction m with
  | zero => rfl
  | succ m ih => unfold foru; rw [ih (fun i hi => h i (by omega)), h m (by omega)]
theorem bs_foru {p : Nat → Bool} : ∀ m, m ≤ 32 → bset (foru (fun t => if p t = true then 1 <<< (nI t &&& 31) else 0) m) m p
  | 0, _ => fun i _ => by rw [show foru (fun t => if p t = true then (1 : Int32) <<< (nI t &&& 31) else 0) 0 = 0 from rfl, b_0]; simp
  | m + 1, hm => fun i hi => by
    unfold foru
    rw [b_or, bs_foru m (by omega) i hi]
    by_cases hp : p m = true
    · rw [if_pos hp, bt_one m (by omega) i hi]
      by_cases e : i = m
      · subst e; simp [hp]
      · rw [decide_eq_false e, Bool.or_false]
        congr 1
        exact decide_eq_decide.mpr (by omega)
    · rw [if_neg hp, b_0, Bool.or_false]
      by_cases e : i = m
      · subst e
        rw [show p i = false by simpa using hp]; simp
      · congr 1
        exact decide_eq_decide.mpr (by omega)
theorem shl_0 {t : Nat} (h : t < 32) : (0 : Int32) <<< (nI t &&& 31) = 0 := b_ext (fun i hi => by rw [b_shl t h 0 hi, b_0, b_0, Bool.and_false])
def dTell (a : V) (k : Nat) (w : Int32) : Int32 := if w < 8 then fd a k w.toNatClampNeg else if w = 8 then b2i (rchd a k) else if w = 9 then fsum (fun t => if ft a t 0 = nI k ∧ ft a t 2 = 0 then 1 else 0) 12 else nI (outs a 16 (fd a k 0))
def opDrawer (a : V) (v w : Int32) : Int32 := if isD a v then if 0 ≤ w ∧ w ≤ 10 then dTell a v.toNatClampNeg w else -2 else -1
def tTell (a : V) (t : Nat) (w : Int32) : Int32 := if w < 2 then if ft a t 2 = 1 then if w = 0 then -5 else 0 else ft a t w.toNatClampNeg else if w = 2 then ft a t 2 else if a 1 = 1 then b2i (canT a t) else 0
def opThing (a : V) (v w : Int32) : Int32 := if isT v then if 0 ≤ w ∧ w ≤ 3 then tTell a v.toNatClampNeg w else -2 else -1
section TL
variable {d n : Nat} {M : Im} {h : Hm} {D : Dm} {A : Ab} {v w : Int32} {Q : Int32 → Im → Hm → Dm → Prop}
theorem t_oneIf {b : Bool} (hQ : Q (b2i b) M h D) : CI (d + 1) nX3_oneIf [.int (b2i b)] M h D Q := by
  refine ci_of rfl rfl (R_X3_oneIf_0 (b2i_if (fun e => ?_) (fun e => ?_)))
  · rw [e] at hQ; exact hQ
  · rw [e] at hQ; exact hQ
theorem X_drawer (hw : wf n A.1.1) (hI : IX M h A) (hQ : Q (opDrawer A.1.1 v w) M h D) : CI (d + 5) nX3_drawer [.ref 0, .int v, .int w] M h D Q := by
  have hR := hI.1
  have s1 : St 1 := Or.inl rfl
  unfold opDrawer at hQ
  refine ci_of rfl rfl (R_X3_drawer_0 (t_isThere s1 (hR.1.trans hw.a0) hw.n16 (fun k hk e => ⟨fun _ => ?_, fun z => absurd b1 z⟩) (fun c => ⟨fun z => absurd rfl z, fun _ => ?_⟩)))
  · have hk16 : k < 16 := by have := hw.n16; omega
    subst e
    obtain ⟨e0, e1, e2, e3, e4, e5⟩ := hR.2.2.2.2.2.2.2.1 k hk16
    rw [if_pos (isD_of hw.a0 hw.n16 hk), kcl hk16] at hQ
    have e6 := b2i_01' (hw.zo.1 k hk16).1
    have e7 := b2i_01' (hw.zo.1 k hk16).2
    refine ⟨fun c => ?_, fun c => ?_, fun c => ?_, fun c => ?_, fun c => ?_, fun c => ?_, fun c => ?_, fun c => ?_, fun c => ?_, fun c => ?_, fun c => ?_, fun c => ?_⟩
    · rw [if_neg (show ¬ (0 ≤ w ∧ w ≤ 10) from nin (m := 10) (by decide) c)] at hQ; exact hQ
    · subst c
      rw [if_pos (by decide), show dTell A.1.1 k 0 = fd A.1.1 k 0 from if_pos (by decide), ← e0] at hQ
      rw [kcl hk16]; exact ⟨kvp hk16 (by decide), hQ⟩
    · subst c
      rw [if_pos (by decide), show dTell A.1.1 k 1 = fd A.1.1 k 1 from if_pos (by decide), ← e1] at hQ
      rw [kcl hk16]; exact ⟨kvp hk16 (by decide), hQ⟩
    · subst c
      rw [if_pos (by decide), show dTell A.1.1 k 2 = fd A.1.1 k 2 from if_pos (by decide), ← e2] at hQ
      rw [kcl hk16]; exact ⟨kvp hk16 (by decide), hQ⟩
    · subst c
      rw [if_pos (by decide), show dTell A.1.1 k 3 = fd A.1.1 k 3 from if_pos (by decide), ← e3] at hQ
      rw [kcl hk16]; exact ⟨kvp hk16 (by decide), hQ⟩
    · subst c
      rw [if_pos (by decide), show dTell A.1.1 k 4 = fd A.1.1 k 4 from if_pos (by decide), ← e4] at hQ
      rw [kcl hk16]; exact ⟨kvp hk16 (by decide), hQ⟩
    · subst c
      rw [if_pos (by decide), show dTell A.1.1 k 5 = fd A.1.1 k 5 from if_pos (by decide), ← e5] at hQ
      rw [kcl hk16]; exact ⟨kvp hk16 (by decide), hQ⟩
    · subst c
      rw [if_pos (by decide), show dTell A.1.1 k 6 = fd A.1.1 k 6 from if_pos (by decide), ← e6] at hQ
      exact t_isOpen s1 hR hk16 (t_oneIf hQ)
    · subst c
      rw [if_pos (by decide), show dTell A.1.1 k 7 = fd A.1.1 k 7 from if_pos (by decide), ← e7] at hQ
      exact t_isIn hR.2.2.2.2.2.1 hk16 (by decide) (t_oneIf hQ)
    · subst c
      rw [if_pos (by decide), show dTell A.1.1 k 8 = b2i (rchd A.1.1 k) from (if_neg (by decide)).trans (if_pos rfl)] at hQ
      exact tS_isReached s1 hR hw.a0 hw.out hw.n16 hk (t_oneIf hQ)
    · subst c
      rw [if_pos (by decide), show dTell A.1.1 k 9 = _ from (if_neg (by decide)).trans ((if_neg (by decide)).trans (if_pos rfl))] at hQ
      exact tS_countIn s1 hR hw.zo hQ
    · subst c
      rw [if_pos (by decide), show dTell A.1.1 k 10 = _ from (if_neg (by decide)).trans ((if_neg (by decide)).trans (if_neg (by decide)))] at hQ
      exact tS_countOuters s1 hR hw.a0 hw.out hw.n16 hk hQ
  · rw [if_neg (isD_no hw.a0 hw.n16 c)] at hQ; exact hQ
theorem M_drawer (hw : wf n A.1.1) (hI : IM M D A) (hQ : Q (opDrawer A.1.1 v w) M h D) : CI (d + 5) nX4_drawer [.ref 73, .int v, .int w] M h D Q := by
  obtain ⟨⟨a, q⟩, B⟩ := A
  have ha : M 74 = a := hI.1.1
  subst ha
  have hw : wf n (M 74) := hw
  have hQ : Q (opDrawer (M 74) v w) M h D := hQ
  unfold opDrawer at hQ
  refine ci_of rfl rfl (R_X4_drawer_0 (t_isDrawer hw.a0 hw.n16 (fun k hk e => ⟨fun _ => ?_, fun z => absurd b1 z⟩) (fun c => ⟨fun z => absurd rfl z, fun _ => ?_⟩)))
  · have hk16 : k < 16 := by have := hw.n16; omega
    subst e
    rw [if_pos (isD_of hw.a0 hw.n16 hk), kcl hk16] at hQ
    refine t_in (fun c => ⟨fun _ => ?_, fun z => absurd b1 z⟩) (fun c => ⟨fun z => absurd rfl z, fun _ => ?_⟩)
    · rw [if_pos c] at hQ
      obtain ⟨j, hj, rfl⟩ := rng (m := 10) c (by decide)
      unfold dTell at hQ
      refine ⟨fun c1 => ?_, fun c1 => ?_⟩
      · rw [if_neg (Int32.not_lt.mpr c1)] at hQ
        refine nn_if (fun c2 => nn_if (fun c3 => ?_) (fun c3 => ?_)) (fun c2 => t_isReached hw.out hw.n16 hk (b2i_if (fun e => ?_) (fun e => ?_)))
        · rw [if_neg c2, if_neg c3] at hQ; exact t_outersOf hw.out hw.n16 hk hQ
        · rw [if_neg c2, if_pos c3] at hQ; exact t_thingsIn hQ
        · rw [if_pos c2, e] at hQ; exact hQ
        · rw [if_pos c2, e] at hQ; exact hQ
      · rw [if_pos (Int32.not_le.mp c1), nI_clamp (by omega)] at hQ
        have hj8 : j < 8 := by
          rcases Nat.lt_or_ge j 8 with z | z
          · exact z
          · exact absurd ((nI_leI (a := 8) (by decide) (by omega)).mpr z) c1
        refine t_d ?_
        rw [nI_add, nI_clamp (by omega)]
        exact ⟨vp_in_nI (by omega) (by decide), hQ⟩
    · rw [if_neg c] at hQ; exact hQ
  · rw [if_neg (isD_no hw.a0 hw.n16 c)] at hQ; exact hQ
theorem X_thing (hw : wf n A.1.1) (hI : IX M h A) (hQ : Q (opThing A.1.1 v w) M h D) : CI (d + 5) nX3_thing [.ref 0, .int v, .int w] M h D Q := by
  have hR := hI.1
  have s1 : St 1 := Or.inl rfl
  unfold opThing at hQ
  refine ci_of rfl rfl (R_X3_thing_0 (t_isThingP (fun c => ⟨fun _ => ?_, fun z => absurd b1 z⟩) (fun c => ⟨fun z => absurd rfl z, fun _ => ?_⟩)))
  · rw [if_pos c] at hQ
    obtain ⟨t, ht, rfl⟩ := isT_ex c
    rw [nI_clamp (by omega)] at hQ
    obtain ⟨e0, e1⟩ := hR.2.2.2.2.2.2.2.2 t ht
    have e2 := b2i_01' (hw.zo.2 t ht)
    refine t_isInHand s1 hR ht ⟨fun c => ?_, fun c => ?_, fun c => ?_, fun c => ?_, fun c => ?_⟩
    · rw [if_neg (show ¬ (0 ≤ w ∧ w ≤ 3) from nin (m := 3) (by decide) c)] at hQ; exact hQ
    · subst c
      rw [if_pos (by decide), show tTell A.1.1 t 0 = _ from if_pos (by decide)] at hQ
      refine b2i_if (fun e => ?_) (fun e => ?_)
      · rw [if_neg (by simpa using e), show (0 : Int32).toNatClampNeg = 0 by decide, ← e0] at hQ
        rw [nI_clamp (by omega)]; exact ⟨kvp ht (by decide), hQ⟩
      · rw [if_pos (by simpa using e), if_pos rfl] at hQ; exact hQ
    · subst c
      rw [if_pos (by decide), show tTell A.1.1 t 1 = _ from if_pos (by decide)] at hQ
      refine b2i_if (fun e => ?_) (fun e => ?_)
      · rw [if_neg (by simpa using e), show (1 : Int32).toNatClampNeg = 1 by decide, ← e1] at hQ
        rw [nI_clamp (by omega)]; exact ⟨kvp ht (by decide), hQ⟩
      · rw [if_pos (by simpa using e), if_neg (by decide)] at hQ; exact hQ
    · subst c
      rw [if_pos (by decide), show tTell A.1.1 t 2 = _ from (if_neg (by decide)).trans (if_pos rfl), ← e2] at hQ
      exact t_oneIf hQ
    · subst c
      rw [if_pos (by decide), show tTell A.1.1 t 3 = _ from (if_neg (by decide)).trans (if_neg (by decide))] at hQ
      rw [hR.2.1]
      refine ⟨fun c => ?_, fun c => ?_⟩
      · rw [if_neg (by rw [c]; decide)] at hQ
        exact t_oneIf (b := false) hQ
      · rw [if_pos (hw.a1.resolve_left c)] at hQ
        refine tS_canTake s1 hR hw.a0 hw.out hw.th hw.zo hw.n16 ht (b2i_if (fun e => ?_) (fun e => ?_))
        · rw [e] at hQ; exact t_oneIf (b := false) hQ
        · rw [e] at hQ; exact t_oneIf (b := true) hQ
  · rw [if_neg c] at hQ; exact hQ
theorem M_thing (hw : wf n A.1.1) (hI : IM M D A) (hQ : Q (opThing A.1.1 v w) M h D) : CI (d + 5) nX4_thing [.ref 73, .int v, .int w] M h D Q := by
  obtain ⟨⟨a, q⟩, B⟩ := A
  have ha : M 74 = a := hI.1.1
  subst ha
  have hw : wf n (M 74) := hw
  have hQ : Q (opThing (M 74) v w) M h D := hQ
  unfold opThing at hQ
  refine ci_of rfl rfl (R_X4_thing_0 (t_in (fun c => ⟨fun _ => ?_, fun z => absurd b1 z⟩) (fun c => ⟨fun z => absurd rfl z, fun _ => ?_⟩)))
  · have c : isT v := c
    rw [if_pos c] at hQ
    obtain ⟨t, ht, rfl⟩ := isT_ex c
    rw [nI_clamp (by omega)] at hQ
    refine t_in (fun c => ⟨fun _ => t_t ⟨tvp ht (by decide), ?_⟩, fun z => absurd b1 z⟩) (fun c => ⟨fun z => absurd rfl z, fun _ => ?_⟩)
    · rw [if_pos c] at hQ
      obtain ⟨j, hj, rfl⟩ := rng (m := 3) c (by decide)
      unfold tTell at hQ
      have k46 : ∀ s0 : Int32, (s0 = 0 ∧ ¬ ft (M 74) t 2 = 1 ∨ s0 = 1 ∧ ft (M 74) t 2 = 1) → EvI (d + 4) nX4_thing 46 [(0, .ref 73), (1, .int (nI t)), (2, .int (nI j)), (3, .int (nI (4 + 3 * t)))] [.int s0] M h D Q := by
        intro s0 hs
        refine R_X4_thing_46 ⟨fun c1 => ?_, fun c1 => ?_⟩
        · rw [if_neg (Int32.not_lt.mpr c1)] at hQ
          refine nn_if (fun c2 => ?_) (fun c2 => ⟨tvp ht (by decide), ?_⟩)
          · rw [if_neg c2] at hQ
            refine t_isGame (fun hg => ⟨fun z => absurd z b1, fun _ => ?_⟩) (fun hg => ⟨fun _ => ?_, fun z => absurd rfl z⟩)
            · rw [if_pos hg] at hQ
              refine t_canTake hw.out hw.th hw.n16 ht (b2i_if (fun e => ?_) (fun e => ?_))
              · rw [e] at hQ; exact hQ
              · rw [e] at hQ; exact hQ
            · rw [if_neg hg] at hQ; exact hQ
          · rw [if_pos c2] at hQ
            rw [tcl ht (by decide)]; exact hQ
        · rw [if_pos (Int32.not_le.mp c1), nI_clamp (by omega)] at hQ
          have hj2 : j < 2 := by
            rcases Nat.lt_or_ge j 2 with z | z
            · exact z
            · exact absurd ((nI_leI (a := 2) (by decide) (by omega)).mpr z) c1
          rcases hs with ⟨rfl, hs⟩ | ⟨rfl, hs⟩
          · rw [if_neg hs] at hQ
            refine ⟨fun _ => ?_, fun z => absurd rfl z⟩
            rw [nI_add, nI_clamp (by omega)]
            exact ⟨vp_in_nI (by omega) (by decide), hQ⟩
          · rw [if_pos hs] at hQ
            refine ⟨fun z => absurd z b1, fun _ => nn_if (fun c2 => ?_) (fun c2 => ?_)⟩
            · rw [if_neg c2] at hQ; exact hQ
            · rw [if_pos c2] at hQ; exact hQ
      rw [tcl ht (by decide)]
      exact nn_if (fun c2 => k46 0 (Or.inl ⟨rfl, c2⟩)) (fun c2 => k46 1 (Or.inr ⟨rfl, c2⟩))
    · rw [if_neg c] at hQ; exact hQ
  · rw [if_neg (fun z : isT v => c z)] at hQ; exact hQ
end TL

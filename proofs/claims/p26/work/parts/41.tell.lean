/-! drawer, thing, on both sides -/
theorem nin {w : Int32} {m : Nat} (hm : m < 2 ^ 31) (h : w.toInt < 0 ∨ (m : Int) < w.toInt) : ¬ (0 ≤ w ∧ w ≤ nI m) := fun z => by
  have h1 := Int32.le_iff_toInt_le.mp z.1
  have h2 := Int32.le_iff_toInt_le.mp z.2
  rw [nI_toInt hm] at h2
  rw [show (0 : Int32).toInt = 0 by decide] at h1
  omega
theorem foru_w {f g : Nat → Int32} {m : Nat} (h : ∀ i, i < m → f i = g i) : foru f m = foru g m := by
  induction m with
  | zero => rfl
  | succ m ih => unfold foru; rw [ih (fun i hi => h i (by omega)), h m (by omega)]
theorem bs_foru {p : Nat → Bool} : ∀ m, m ≤ 32 → bset (foru (fun t => if p t = true then 1 <<< (nI t &&& 31) else 0) m) m p
  | 0, _ => fun i _ => by rw [show foru (fun t => if p t = true then (1 : Int32) <<< (nI t &&& 31) else 0) 0 = 0 from rfl, b_0]; simp
  | m + 1, hm => fun i hi => by
    unfold foru
    rw [b_or, bs_foru m (by omega) i hi]
    by_cases hp : p m = true
    · rw [if_pos hp, bt_one m (by omega) i hi]
      by_cases e : i = m
      · subst e; simp [hp]
      · rw [decide_eq_false e, Bool.or_false]
        congr 1
        exact decide_eq_decide.mpr (by omega)
    · rw [if_neg hp, b_0, Bool.or_false]
      by_cases e : i = m
      · subst e
        rw [show p i = false by simpa using hp]; simp
      · congr 1
        exact decide_eq_decide.mpr (by omega)
theorem shl_0 {t : Nat} (h : t < 32) : (0 : Int32) <<< (nI t &&& 31) = 0 := b_ext (fun i hi => by rw [b_shl t h 0 hi, b_0, b_0, Bool.and_false])
def dTell (a : V) (k : Nat) (w : Int32) : Int32 := if w < 8 then fd a k w.toNatClampNeg else if w = 8 then b2i (rchd a k) else if w = 9 then fsum (fun t => if ft a t 0 = nI k ∧ ft a t 2 = 0 then 1 else 0) 12 else nI (outs a 16 (fd a k 0))
def opDrawer (a : V) (v w : Int32) : Int32 := if isD a v then if 0 ≤ w ∧ w ≤ 10 then dTell a v.toNatClampNeg w else -2 else -1
def tTell (a : V) (t : Nat) (w : Int32) : Int32 := if w < 2 then if ft a t 2 = 1 then if w = 0 then -5 else 0 else ft a t w.toNatClampNeg else if w = 2 then ft a t 2 else if a 1 = 1 then b2i (canT a t) else 0
def opThing (a : V) (v w : Int32) : Int32 := if isT v then if 0 ≤ w ∧ w ≤ 3 then tTell a v.toNatClampNeg w else -2 else -1
section TL
variable {d n : Nat} {M : Im} {h : Hm} {D : Dm} {A : Ab} {v w : Int32} {Q : Int32 → Im → Hm → Dm → Prop}
theorem t_oneIf {b : Bool} (hQ : Q (b2i b) M h D) : CI (d + 1) nX3_oneIf [.int (b2i b)] M h D Q := by
  refine ci_of rfl rfl (R_X3_oneIf_0 (b2i_if (fun e => ?_) (fun e => ?_)))
  · rw [e] at hQ; exact hQ
  · rw [e] at hQ; exact hQ
theorem X_drawer (hw : wf n A.1.1) (hI : IX M h A) (hQ : Q (opDrawer A.1.1 v w) M h D) : CI (d + 5) nX3_drawer [.ref 0, .int v, .int w] M h D Q := by
  have hR := hI.1
  have s1 : St 1 := Or.inl rfl
  unfold opDrawer at hQ
  refine ci_of rfl rfl (R_X3_drawer_0 (t_isThere s1 (hR.1.trans hw.a0) hw.n16 (fun k hk e => ⟨fun _ => ?_, fun z => absurd b1 z⟩) (fun c => ⟨fun z => absurd rfl z, fun _ => ?_⟩)))
  · have hk16 : k < 16 := by have := hw.n16; omega
    subst e
    obtain ⟨e0, e1, e2, e3, e4, e5⟩ := hR.2.2.2.2.2.2.2.1 k hk16
    rw [if_pos (isD_of hw.a0 hw.n16 hk), kcl hk16] at hQ
    have e6 := b2i_01' (hw.zo.1 k hk16).1
    have e7 := b2i_01' (hw.zo.1 k hk16).2
    refine ⟨fun c => ?_, fun c => ?_, fun c => ?_, fun c => ?_, fun c => ?_, fun c => ?_, fun c => ?_, fun c => ?_, fun c => ?_, fun c => ?_, fun c => ?_, fun c => ?_⟩
    · rw [if_neg (show ¬ (0 ≤ w ∧ w ≤ 10) from nin (m := 10) (by decide) c)] at hQ; exact hQ
    · subst c
      rw [if_pos (by decide), show dTell A.1.1 k 0 = fd A.1.1 k 0 from if_pos (by decide), ← e0] at hQ
      rw [kcl hk16]; exact ⟨kvp hk16 (by decide), hQ⟩
    · subst c
      rw [if_pos (by decide), show dTell A.1.1 k 1 = fd A.1.1 k 1 from if_pos (by decide), ← e1] at hQ
      rw [kcl hk16]; exact ⟨kvp hk16 (by decide), hQ⟩
    · subst c
      rw [if_pos (by decide), show dTell A.1.1 k 2 = fd A.1.1 k 2 from if_pos (by decide), ← e2] at hQ
      rw [kcl hk16]; exact ⟨kvp hk16 (by decide), hQ⟩
    · subst c
      rw [if_pos (by decide), show dTell A.1.1 k 3 = fd A.1.1 k 3 from if_pos (by decide), ← e3] at hQ
      rw [kcl hk16]; exact ⟨kvp hk16 (by decide), hQ⟩
    · subst c
      rw [if_pos (by decide), show dTell A.1.1 k 4 = fd A.1.1 k 4 from if_pos (by decide), ← e4] at hQ
      rw [kcl hk16]; exact ⟨kvp hk16 (by decide), hQ⟩
    · subst c
      rw [if_pos (by decide), show dTell A.1.1 k 5 = fd A.1.1 k 5 from if_pos (by decide), ← e5] at hQ
      rw [kcl hk16]; exact ⟨kvp hk16 (by decide), hQ⟩
    · subst c
      rw [if_pos (by decide), show dTell A.1.1 k 6 = fd A.1.1 k 6 from if_pos (by decide), ← e6] at hQ
      exact t_isOpen s1 hR hk16 (t_oneIf hQ)
    · subst c
      rw [if_pos (by decide), show dTell A.1.1 k 7 = fd A.1.1 k 7 from if_pos (by decide), ← e7] at hQ
      exact t_isIn hR.2.2.2.2.2.1 hk16 (by decide) (t_oneIf hQ)
    · subst c
      rw [if_pos (by decide), show dTell A.1.1 k 8 = b2i (rchd A.1.1 k) from (if_neg (by decide)).trans (if_pos rfl)] at hQ
      exact tS_isReached s1 hR hw.a0 hw.out hw.n16 hk (t_oneIf hQ)
    · subst c
      rw [if_pos (by decide), show dTell A.1.1 k 9 = _ from (if_neg (by decide)).trans ((if_neg (by decide)).trans (if_pos rfl))] at hQ
      exact tS_countIn s1 hR hw.zo hQ
    · subst c
      rw [if_pos (by decide), show dTell A.1.1 k 10 = _ from (if_neg (by decide)).trans ((if_neg (by decide)).trans (if_neg (by decide)))] at hQ
      exact tS_countOuters s1 hR hw.a0 hw.out hw.n16 hk hQ
  · rw [if_neg (isD_no hw.a0 hw.n16 c)] at hQ; exact hQ
theorem X_thing (hw : wf n A.1.1) (hI : IX M h A) (hQ : Q (opThing A.1.1 v w) M h D) : CI (d + 5) nX3_thing [.ref 0, .int v, .int w] M h D Q := by
  have hR := hI.1
  have s1 : St 1 := Or.inl rfl
  unfold opThing at hQ
  refine ci_of rfl rfl (R_X3_thing_0 (t_isThingP (fun c => ⟨fun _ => ?_, fun z => absurd b1 z⟩) (fun c => ⟨fun z => absurd rfl z, fun _ => ?_⟩)))
  · rw [if_pos c] at hQ
    obtain ⟨t, ht, rfl⟩ := isT_ex c
    rw [nI_clamp (by omega)] at hQ
    obtain ⟨e0, e1⟩ := hR.2.2.2.2.2.2.2.2 t ht
    have e2 := b2i_01' (hw.zo.2 t ht)
    refine t_isInHand s1 hR ht ⟨fun c => ?_, fun c => ?_, fun c => ?_, fun c => ?_, fun c => ?_⟩
    · rw [if_neg (show ¬ (0 ≤ w ∧ w ≤ 3) from nin (m := 3) (by decide) c)] at hQ; exact hQ
    · subst c
      rw [if_pos (by decide), show tTell A.1.1 t 0 = _ from if_pos (by decide)] at hQ
      refine b2i_if (fun e => ?_) (fun e => ?_)
      · rw [if_neg (by simpa using e), show (0 : Int32).toNatClampNeg = 0 by decide, ← e0] at hQ
        rw [nI_clamp (by omega)]; exact ⟨kvp ht (by decide), hQ⟩
      · rw [if_pos (by simpa using e), if_pos rfl] at hQ; exact hQ
    · subst c
      rw [if_pos (by decide), show tTell A.1.1 t 1 = _ from if_pos (by decide)] at hQ
      refine b2i_if (fun e => ?_) (fun e => ?_)
      · rw [if_neg (by simpa using e), show (1 : Int32).toNatClampNeg = 1 by decide, ← e1] at hQ
        rw [nI_clamp (by omega)]; exact ⟨kvp ht (by decide), hQ⟩
      · rw [if_pos (by simpa using e), if_neg (by decide)] at hQ; exact hQ
    · subst c
      rw [if_pos (by decide), show tTell A.1.1 t 2 = _ from (if_neg (by decide)).trans (if_pos rfl), ← e2] at hQ
      exact t_oneIf hQ
    · subst c
      rw [if_pos (by decide), show tTell A.1.1 t 3 = _ from (if_neg (by decide)).trans (if_neg (by decide))] at hQ
      rw [hR.2.1]
      refine ⟨fun c => ?_, fun c => ?_⟩
      · rw [if_neg (by rw [c]; decide)] at hQ
        exact t_oneIf (b := false) hQ
      · rw [if_pos (hw.a1.resolve_left c)] at hQ
        refine tS_canTake s1 hR hw.a0 hw.out hw.th hw.zo hw.n16 ht (b2i_if (fun e => ?_) (fun e => ?_))
        · rw [e] at hQ; exact t_oneIf (b := false) hQ
        · rw [e] at hQ; exact t_oneIf (b := true) hQ
  · rw [if_neg c] at hQ; exact hQ
end TL

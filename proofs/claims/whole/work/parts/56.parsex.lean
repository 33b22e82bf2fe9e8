/-! THE CLASS's DrawerText: reading -/
def XT (M : Im) (t : Tx) (p f : Nat) : Prop := M 31 1 = nI t.1 ∧ M 31 2 = nI p ∧ M 31 3 = nI f ∧ ∀ i, i < t.1 → M 32 i = t.2 i
def F2 (c0 c1 f : Nat) (M M1 : Im) : Prop := ∀ c i, c ≠ 31 → ((c ≠ c0 ∧ c ≠ c1) ∨ i ≠ f) → M1 c i = M c i
def Fr31 (M M1 : Im) : Prop := ∀ c, c ≠ 31 → M1 c = M c
def FrR (f : Nat) (M M1 : Im) : Prop := ∀ c i, c ≠ 31 → (c < 33 ∨ 36 < c ∨ i ≠ f) → M1 c i = M c i
def XW (M : Im) (i : Nat) (w : Rw) : Prop := M 33 i = w.1 ∧ M 34 i = w.2.1 ∧ ((w.2.1 = 1 ∨ w.2.1 = 2) → M 35 i = w.2.2.1) ∧ M 36 i = nI w.2.2.2
theorem Fr31.f2 {c0 c1 f : Nat} {M M1 : Im} (h : Fr31 M M1) : F2 c0 c1 f M M1 := fun c i hc _ => by rw [h c hc]
theorem F2.tr {c0 c1 f : Nat} {M M1 M2 : Im} (h1 : F2 c0 c1 f M M1) (h2 : F2 c0 c1 f M1 M2) : F2 c0 c1 f M M2 := fun c i a b => (h2 c i a b).trans (h1 c i a b)
theorem FrR.tr {f : Nat} {M M1 M2 : Im} (h1 : FrR f M M1) (h2 : FrR f M1 M2) : FrR f M M2 := fun c i a b => (h2 c i a b).trans (h1 c i a b)
theorem F2.r {c0 c1 f : Nat} {M M1 : Im} (h : F2 c0 c1 f M M1) (h0 : 33 ≤ c0 ∧ c0 ≤ 36) (h1 : 33 ≤ c1 ∧ c1 ≤ 36) : FrR f M M1 := fun c i a b => h c i a (by omega)
theorem oN_no {o : Option Nat} (h : ∀ k, o = some k → k < 100) : oN o = -1 ↔ o = none := by
  cases o with
  | none => exact ⟨fun _ => rfl, fun _ => rfl⟩
  | some k =>
    refine ⟨fun z => ?_, fun z => by cases z⟩
    have h1 := congrArg Int32.toInt (show nI k = -1 from z)
    rw [nI_toInt (by have := h k rfl; omega), show (-1 : Int32).toInt = -1 by decide] at h1
    omega
theorem rdD_n {t : Tx} {p lo hi : Nat} (h : (rdD t p lo hi).1 = none) : (rdD t p lo hi).2 = p := by
  unfold rdD at h ⊢
  by_cases c : sg t p (lo + 48) (hi + 48) = true
  · rw [if_pos c] at h; cases h
  · rw [if_neg c]
theorem dg_lt {c lo : Nat} (hc : c < 65536) (hl : lo < 100) : nI c - 48 < nI lo ↔ c < lo + 48 := by
  have h1 := pk_sub_toInt (a := c) (b := 48) (by omega) (by decide)
  rw [Int32.lt_iff_toInt_lt, show (nI c - 48).toInt = (c : Int) - 48 from h1, nI_toInt (by omega)]; omega
theorem dg_le {c hi : Nat} (hc : c < 65536) (hl : hi < 100) : nI c - 48 ≤ nI hi ↔ c ≤ hi + 48 := by
  have h1 := pk_sub_toInt (a := c) (b := 48) (by omega) (by decide)
  rw [Int32.le_iff_toInt_le, show (nI c - 48).toInt = (c : Int) - 48 from h1, nI_toInt (by omega)]; omega
theorem b2i_some {α : Type} {o : Option α} {x : α} (h : o = some x) : b2i o.isSome = 1 := by rw [h]; rfl
theorem b2i_none {α : Type} {o : Option α} (h : o = none) : b2i o.isSome = 0 := by rw [h]; rfl
section XP
variable {d p f : Nat} {t : Tx} {M : Im} {h : Hm} {D : Dm} {Q : Int32 → Im → Hm → Dm → Prop}
theorem XT.at {q : Nat} (h : XT M t p f) : XT (up2 M 31 2 (nI q)) t q f := by
  obtain ⟨h1, h2, h3, h4⟩ := h
  refine ⟨?_, ?_, ?_, fun i hi => ?_⟩
  · rw [show up2 M 31 2 (nI q) 31 1 = M 31 1 by simp [up2]]; exact h1
  · simp [up2]
  · rw [show up2 M 31 2 (nI q) 31 3 = M 31 3 by simp [up2]]; exact h3
  · rw [up2_ne _ _ _ (by decide)]; exact h4 i hi
theorem XT.fr {M1 : Im} (h : XT M t p f) (h31 : M1 31 = M 31) (h32 : M1 32 = M 32) : XT M1 t p f := by
  unfold XT; rw [h31, h32]; exact h
theorem up_31 (x : Int32) (k : Nat) : Fr31 M (up2 M 31 k x) := fun c hc => up2_ne _ _ _ hc
theorem t_readSign {c : Nat} (hT : XT M t p f) (ht : txOk t) (hp : p ≤ t.1) (hc : c < 200) (h1 : sg t p c c = true → ∀ M1, XT M1 t (p + 1) f → Fr31 M M1 → Q 1 M1 h D) (h0 : sg t p c c = false → Q 0 M h D) : CI (d + 1) nX0_readSign [.ref 31, .int (nI c)] M h D Q := by
  obtain ⟨g1, g2, g3, g4⟩ := id hT
  have hL := ht.1
  refine ci_of rfl rfl (R_X0_readSign_0 ?_)
  rw [g1, g2]
  refine ⟨fun z => h0 (decide_eq_false (fun y => ?_)), fun z => ?_⟩
  · exact absurd ((nI_leI (by omega) (by omega)).mp z) (by omega)
  · have hlt : p < t.1 := by
      rcases Nat.lt_or_ge p t.1 with y | y
      · exact y
      · exact absurd ((nI_leI (by omega) (by omega)).mpr y) z
    obtain ⟨c1, c2⟩ := ht.2 p hlt
    rw [nI_clamp (by omega), g4 p hlt, c1, nI_1]
    refine ⟨vp_in_nI (by omega) (by decide), fun y => h1 (decide_eq_true ⟨hlt, ?_⟩) _ hT.at (up_31 _ _), fun y => h0 (decide_eq_false (fun w => y ?_))⟩
    · have := nI_inj' (by omega) (by omega) y; omega
    · rw [show ch t p = c by omega]
theorem t_readDigit {lo hi : Nat} (hT : XT M t p f) (ht : txOk t) (hp : p ≤ t.1) (hl : lo < 100) (hh : hi < 100) (hQ : ∀ M1, XT M1 t (rdD t p lo hi).2 f → Fr31 M M1 → Q (oN (rdD t p lo hi).1) M1 h D) : CI (d + 1) nX0_readDigit [.ref 31, .int (nI lo), .int (nI hi)] M h D Q := by
  obtain ⟨g1, g2, g3, g4⟩ := id hT
  have hL := ht.1
  unfold rdD at hQ
  refine ci_of rfl rfl (R_X0_readDigit_0 ?_)
  rw [g1, g2]
  have hno : ¬ sg t p (lo + 48) (hi + 48) = true → Q (-1) M h D := fun z => by
    rw [if_neg z] at hQ; exact hQ M hT (fun _ _ => rfl)
  refine ⟨fun z => ?_, fun z => hno (fun y => z ((nI_ltI (by omega) (by omega)).mpr (sg_t y).1))⟩
  have hlt : p < t.1 := (nI_ltI (by omega) (by omega)).mp z
  obtain ⟨c1, c2⟩ := ht.2 p hlt
  rw [nI_clamp (by omega), g4 p hlt, c1, nI_1]
  refine ⟨vp_in_nI (by omega) (by decide), fun y => hno (fun w => ?_), fun y => ⟨fun y2 => ?_, fun y2 => hno (fun w => y2 ((dg_le c2 hh).mpr (sg_t w).2.2))⟩⟩
  · have h1 := (dg_lt c2 hl).mp y
    have h2 := (sg_t w).2.1
    omega
  · have hge : ¬ ch t p < lo + 48 := fun w => y ((dg_lt c2 hl).mpr w)
    have hle := (dg_le c2 hh).mp y2
    rw [if_pos (show sg t p (lo + 48) (hi + 48) = true from decide_eq_true ⟨hlt, by omega, hle⟩)] at hQ
    rw [show nI (ch t p) - 48 = nI (ch t p - 48) from nI_sub' (b := 48) (by omega)]
    exact hQ _ hT.at (up_31 _ _)
theorem t_readNumber (hT : XT M t p f) (ht : txOk t) (hp : p ≤ t.1) (hQ : ∀ M1, XT M1 t (rdN t p).2 f → Fr31 M M1 → Q (oN (rdN t p).1) M1 h D) : CI (d + 2) nX0_readNumber [.ref 31] M h D Q := by
  refine ci_of rfl rfl (R_X0_readNumber_0 (t_readDigit (lo := 0) (hi := 9) hT ht hp (by decide) (by decide) (fun M1 t1 f1 => ?_)))
  have hp1 := (rdD_p (lo := 0) (hi := 9) hp).2
  unfold rdN at hQ
  by_cases c : (rdD t p 0 9).1 = some 1
  · rw [if_pos c] at hQ
    rw [c]
    unfold rdN2 at hQ
    refine ⟨fun _ => t_readDigit (lo := 0) (hi := 5) t1 ht hp1 (by decide) (by decide) (fun M2 t2 f2 => ?_), fun z => absurd rfl z⟩
    cases hd : (rdD t (rdD t p 0 9).2 0 5).1 with
    | some e =>
      rw [hd] at hQ
      have he := rdD_v hd
      refine ⟨fun _ => ?_, fun z => absurd ?_ z⟩
      · rw [show (10 : Int32) + oN (some e) = nI (10 + e) from nI_add 10 e]
        exact hQ M2 t2 (fun c hc => (f2 c hc).trans (f1 c hc))
      · intro y
        have := (oN_no (o := some e) (fun k hk => by cases hk; omega)).mp y
        cases this
    | none =>
      rw [hd] at hQ
      refine ⟨fun z => absurd rfl z, fun _ => ?_⟩
      have hq2 : (rdD t (rdD t p 0 9).2 0 5).2 = (rdD t p 0 9).2 := rdD_n hd
      rw [hq2] at t2
      exact hQ M2 t2 (fun c hc => (f2 c hc).trans (f1 c hc))
  · rw [if_neg c] at hQ
    refine ⟨fun z => ?_, fun _ => hQ M1 t1 f1⟩
    refine absurd ?_ c
    cases hd : (rdD t p 0 9).1 with
    | none => rw [hd] at z; exact absurd z (by decide)
    | some e =>
      rw [hd] at z
      have he := rdD_v hd
      have := nI_inj' (b := 1) (by omega) (by decide) z
      rw [this]
theorem t_readOuter (hT : XT M t p f) (ht : txOk t) (hp : p ≤ t.1) (hf : f < 21) (hQ : ∀ M1, XT M1 t (rdO t p).2 f → (∀ o, (rdO t p).1 = some o → M1 33 f = o) → F2 33 33 f M M1 → Q (b2i (rdO t p).1.isSome) M1 h D) : CI (d + 3) nX0_readOuter [.ref 31] M h D Q := by
  have put : ∀ (M1 : Im) (x : Int32), Fr31 M M1 → F2 33 33 f M (up2 M1 33 f x) := fun M1 x f1 c i hc hi => by
    unfold up2; rw [if_neg (by omega), f1 c hc]
  unfold rdO at hQ
  refine ci_of rfl rfl (R_X0_readOuter_0 (t_readSign (c := 99) hT ht hp (by decide) (fun c M1 t1 f1 => ⟨fun z => absurd z b1, fun _ => ?_⟩) (fun c => ⟨fun _ => t_readNumber hT ht hp (fun M1 t1 f1 => ?_), fun z => absurd rfl z⟩)))
  · rw [if_pos c] at hQ
    rw [t1.2.2.1, nI_clamp (by omega)]
    exact ⟨vp_in_nI hf (by decide), hQ _ (t1.fr (up2_ne _ _ _ (by decide)) (up2_ne _ _ _ (by decide))) (fun o ho => by rw [← Option.some.inj ho]; simp [up2]) (put M1 _ f1)⟩
  · rw [if_neg (by rw [c]; decide)] at hQ
    have e3 : up2 M1 33 f (oN (rdN t p).1) 31 3 = nI f := by rw [up2_ne _ _ _ (by decide)]; exact t1.2.2.1
    rw [hT.2.2.1, nI_clamp (by omega), e3, nI_clamp (by omega), show up2 M1 33 f (oN (rdN t p).1) 33 f = oN (rdN t p).1 by simp [up2]]
    refine ⟨vp_in_nI hf (by decide), vp_in_nI hf (by decide), fun z => ?_, fun z => ?_⟩
    · have hz := (oN_no (fun k hk => by have := rdN_v hp hk; omega)).mp z
      have hq := hQ (up2 M1 33 f (oN (rdN t p).1)) (t1.fr (up2_ne _ _ _ (by decide)) (up2_ne _ _ _ (by decide))) (fun o ho => by rw [hz] at ho; cases ho) (put M1 _ f1)
      rw [b2i_none (by rw [hz]; rfl)] at hq; exact hq
    · cases hk : (rdN t p).1 with
      | none => rw [hk] at z; exact absurd rfl z
      | some k =>
        rw [hk] at hQ
        exact hQ (up2 M1 33 f (oN (some k))) (t1.fr (up2_ne _ _ _ (by decide)) (up2_ne _ _ _ (by decide))) (fun o ho => by rw [← Option.some.inj ho]; simp [up2, oN]) (put M1 _ f1)
theorem t_readHold (hT : XT M t p f) (ht : txOk t) (hp : p ≤ t.1) (hf : f < 21) (hQ : ∀ M1, XT M1 t (rdH t p).2 f → (∀ hb, (rdH t p).1 = some hb → M1 34 f = hb.1 ∧ ((hb.1 = 1 ∨ hb.1 = 2) → M1 35 f = hb.2)) → F2 34 35 f M M1 → Q (b2i (rdH t p).1.isSome) M1 h D) : CI (d + 3) nX0_readHold [.ref 31] M h D Q := by
  have put : ∀ (M1 : Im) (x : Int32), F2 34 35 f M M1 → F2 34 35 f M (up2 M1 34 f x) := fun M1 x f1 c i hc hi => by
    unfold up2; rw [if_neg (by omega)]; exact f1 c i hc hi
  have put5 : ∀ (M1 : Im) (x : Int32), F2 34 35 f M M1 → F2 34 35 f M (up2 M1 35 f x) := fun M1 x f1 c i hc hi => by
    unfold up2; rw [if_neg (by omega)]; exact f1 c i hc hi
  have xt : ∀ (M1 : Im) (c q : Nat) (x : Int32), XT M1 t q f → c ≠ 31 → c ≠ 32 → XT (up2 M1 c f x) t q f := fun M1 c q x h1 h2 h3 => h1.fr (up2_ne _ _ _ h2.symm) (up2_ne _ _ _ h3.symm)
  unfold rdH at hQ
  refine ci_of rfl rfl (R_X0_readHold_0 (t_readSign (c := 104) hT ht hp (by decide) (fun c1 M1 t1 f1 => ⟨fun z => absurd z b1, fun _ => ?_⟩) (fun c1 => ⟨fun _ => t_readSign (c := 115) hT ht hp (by decide) (fun c2 M1 t1 f1 => ⟨fun z => absurd z b1, fun _ => ?_⟩) (fun c2 => ⟨fun _ => t_readSign (c := 107) hT ht hp (by decide) (fun c3 M1 t1 f1 => ⟨fun z => absurd z b1, fun _ => ?_⟩) (fun c3 => ⟨fun _ => t_readSign (c := 108) hT ht hp (by decide) (fun c4 M1 t1 f1 => ⟨fun z => absurd z b1, fun _ => ?_⟩) (fun c4 => ⟨fun _ => ?_, fun z => absurd rfl z⟩), fun z => absurd rfl z⟩), fun z => absurd rfl z⟩), fun z => absurd rfl z⟩)))
  · rw [if_pos c1] at hQ
    rw [t1.2.2.1, nI_clamp (by omega)]
    exact ⟨vp_in_nI hf (by decide), hQ _ (xt M1 34 _ _ t1 (by decide) (by decide)) (fun hb ho => by rw [← Option.some.inj ho]; exact ⟨by simp [up2], fun z => by rcases z with z | z <;> exact absurd z (by decide)⟩) (put M1 _ f1.f2)⟩
  · rw [if_neg (by rw [c1]; decide), if_pos c2] at hQ
    rw [t1.2.2.1, nI_clamp (by omega)]
    exact ⟨vp_in_nI hf (by decide), hQ _ (xt M1 34 _ _ t1 (by decide) (by decide)) (fun hb ho => by rw [← Option.some.inj ho]; exact ⟨by simp [up2], fun z => by rcases z with z | z <;> exact absurd z (by decide)⟩) (put M1 _ f1.f2)⟩
  · rw [if_neg (by rw [c1]; decide), if_neg (by rw [c2]; decide), if_pos c3] at hQ
    rw [t1.2.2.1, nI_clamp (by omega)]
    refine ⟨vp_in_nI hf (by decide), t_readDigit (lo := 0) (hi := 9) (xt M1 34 _ 1 t1 (by decide) (by decide)) ht (sg_t c3).1 (by decide) (by decide) (fun M2 t2 f2 => ?_)⟩
    have fr2 : F2 34 35 f M M2 := (put M1 1 f1.f2).tr f2.f2
    have e34 : M2 34 f = 1 := by rw [f2 34 (by decide)]; simp [up2]
    rw [show up2 M1 34 f 1 31 3 = nI f by rw [up2_ne _ _ _ (by decide)]; exact t1.2.2.1, nI_clamp (by omega)]
    have e3 : up2 M2 35 f (oN (rdD t (p + 1) 0 9).1) 31 3 = nI f := by rw [up2_ne _ _ _ (by decide)]; exact t2.2.2.1
    rw [e3, nI_clamp (by omega), show up2 M2 35 f (oN (rdD t (p + 1) 0 9).1) 35 f = oN (rdD t (p + 1) 0 9).1 by simp [up2]]
    refine ⟨vp_in_nI hf (by decide), vp_in_nI hf (by decide), fun z => ?_, fun z => ?_⟩
    · have hz := (oN_no (fun k hk => by have := rdD_v hk; omega)).mp z
      have hq := hQ (up2 M2 35 f (oN (rdD t (p + 1) 0 9).1)) (xt M2 35 _ _ t2 (by decide) (by decide)) (fun hb ho => by rw [hz] at ho; cases ho) (put5 M2 _ fr2)
      rw [b2i_none (by rw [hz]; rfl)] at hq; exact hq
    · cases hk : (rdD t (p + 1) 0 9).1 with
      | none => rw [hk] at z; exact absurd rfl z
      | some k =>
        rw [hk] at hQ
        exact hQ (up2 M2 35 f (oN (some k))) (xt M2 35 _ _ t2 (by decide) (by decide)) (fun hb ho => by
          rw [← Option.some.inj ho]
          exact ⟨by rw [up2_ne _ _ _ (by decide)]; exact e34, fun _ => by simp [up2, oN]⟩) (put5 M2 _ fr2)
  · rw [if_neg (by rw [c1]; decide), if_neg (by rw [c2]; decide), if_neg (by rw [c3]; decide), if_pos c4] at hQ
    rw [t1.2.2.1, nI_clamp (by omega)]
    refine ⟨vp_in_nI hf (by decide), t_readNumber (xt M1 34 _ 2 t1 (by decide) (by decide)) ht (sg_t c4).1 (fun M2 t2 f2 => ?_)⟩
    have fr2 : F2 34 35 f M M2 := (put M1 2 f1.f2).tr f2.f2
    have e34 : M2 34 f = 2 := by rw [f2 34 (by decide)]; simp [up2]
    rw [show up2 M1 34 f 2 31 3 = nI f by rw [up2_ne _ _ _ (by decide)]; exact t1.2.2.1, nI_clamp (by omega)]
    have e3 : up2 M2 35 f (oN (rdN t (p + 1)).1) 31 3 = nI f := by rw [up2_ne _ _ _ (by decide)]; exact t2.2.2.1
    rw [e3, nI_clamp (by omega), show up2 M2 35 f (oN (rdN t (p + 1)).1) 35 f = oN (rdN t (p + 1)).1 by simp [up2]]
    have hp1 : p + 1 ≤ t.1 := (sg_t c4).1
    refine ⟨vp_in_nI hf (by decide), vp_in_nI hf (by decide), fun z => ?_, fun z => ?_⟩
    · have hz := (oN_no (fun k hk => by have := rdN_v hp1 hk; omega)).mp z
      have hq := hQ (up2 M2 35 f (oN (rdN t (p + 1)).1)) (xt M2 35 _ _ t2 (by decide) (by decide)) (fun hb ho => by rw [hz] at ho; cases ho) (put5 M2 _ fr2)
      rw [b2i_none (by rw [hz]; rfl)] at hq; exact hq
    · cases hk : (rdN t (p + 1)).1 with
      | none => rw [hk] at z; exact absurd rfl z
      | some k =>
        rw [hk] at hQ
        exact hQ (up2 M2 35 f (oN (some k))) (xt M2 35 _ _ t2 (by decide) (by decide)) (fun hb ho => by
          rw [← Option.some.inj ho]
          exact ⟨by rw [up2_ne _ _ _ (by decide)]; exact e34, fun _ => by simp [up2, oN]⟩) (put5 M2 _ fr2)
  · rw [if_neg (by rw [c1]; decide), if_neg (by rw [c2]; decide), if_neg (by rw [c3]; decide), if_neg (by rw [c4]; decide)] at hQ
    exact hQ M hT (fun hb ho => by cases ho) (fun _ _ _ _ => rfl)
theorem t_readBottoms (hT : XT M t p f) (ht : txOk t) (hp : p ≤ t.1) (hf : f < 21) (hQ : ∀ M1, XT M1 t (rdB t p).2 f → (∀ b, (rdB t p).1 = some b → M1 36 f = nI b) → F2 36 36 f M M1 → Q (b2i (rdB t p).1.isSome) M1 h D) : CI (d + 2) nX0_readBottoms [.ref 31] M h D Q := by
  have put : ∀ (M1 : Im) (x : Int32), F2 36 36 f M M1 → F2 36 36 f M (up2 M1 36 f x) := fun M1 x f1 c i hc hi => by
    unfold up2; rw [if_neg (by omega)]; exact f1 c i hc hi
  have xt : ∀ (M1 : Im) (c q : Nat) (x : Int32), XT M1 t q f → c ≠ 31 → c ≠ 32 → XT (up2 M1 c f x) t q f := fun M1 c q x h1 h2 h3 => h1.fr (up2_ne _ _ _ h2.symm) (up2_ne _ _ _ h3.symm)
  unfold rdB at hQ
  refine ci_of rfl rfl (R_X0_readBottoms_0 ?_)
  rw [hT.2.2.1, nI_clamp (by omega)]
  have hT0 := xt M 36 p 0 hT (by decide) (by decide)
  have f0 : F2 36 36 f M (up2 M 36 f 0) := put M 0 (fun _ _ _ _ => rfl)
  refine ⟨vp_in_nI hf (by decide), t_readSign (c := 42) hT0 ht hp (by decide) (fun c M1 t1 f1 => ⟨fun _ => t_readDigit (lo := 1) (hi := 3) t1 ht (sg_t c).1 (by decide) (by decide) (fun M2 t2 f2 => ?_), fun z => absurd b1 z⟩) (fun c => ⟨fun z => absurd rfl z, fun _ => ?_⟩)⟩
  · rw [if_pos c] at hQ
    have fr2 : F2 36 36 f M M2 := (f0.tr f1.f2).tr f2.f2
    rw [t1.2.2.1, nI_clamp (by omega)]
    have e3 : up2 M2 36 f (oN (rdD t (p + 1) 1 3).1) 31 3 = nI f := by rw [up2_ne _ _ _ (by decide)]; exact t2.2.2.1
    rw [e3, nI_clamp (by omega), show up2 M2 36 f (oN (rdD t (p + 1) 1 3).1) 36 f = oN (rdD t (p + 1) 1 3).1 by simp [up2]]
    refine ⟨vp_in_nI hf (by decide), vp_in_nI hf (by decide), fun z => ?_, fun z => ?_⟩
    · have hz := (oN_no (fun k hk => by have := rdD_v hk; omega)).mp z
      have hq := hQ (up2 M2 36 f (oN (rdD t (p + 1) 1 3).1)) (xt M2 36 _ _ t2 (by decide) (by decide)) (fun b ho => by rw [hz] at ho; cases ho) (put M2 _ fr2)
      rw [b2i_none hz] at hq; exact hq
    · cases hk : (rdD t (p + 1) 1 3).1 with
      | none => rw [hk] at z; exact absurd rfl z
      | some k =>
        rw [hk] at hQ
        exact hQ (up2 M2 36 f (oN (some k))) (xt M2 36 _ _ t2 (by decide) (by decide)) (fun b ho => by rw [← Option.some.inj ho]; simp [up2, oN]) (put M2 _ fr2)
  · rw [if_neg (by rw [c]; decide)] at hQ
    exact hQ _ hT0 (fun b ho => by rw [← Option.some.inj ho]; simp [up2]; rfl) f0
theorem t_readDrawer (hT : XT M t p f) (ht : txOk t) (hp : p ≤ t.1) (hf : f < 21) (hQ1 : ∀ w, (rdW t p).1 = some w → ∀ M1, XT M1 t (rdW t p).2 (f + 1) → XW M1 f w → FrR f M M1 → Q 1 M1 h D) (hQ0 : (rdW t p).1 = none → ∀ M1, XT M1 t (rdW t p).2 f → FrR f M M1 → Q 0 M1 h D) : CI (d + 4) nX0_readDrawer [.ref 31] M h D Q := by
  have h1 := rdO_p hp
  have h2 := rdH_p h1.2
  refine ci_of rfl rfl (R_X0_readDrawer_0 ?_)
  rw [hT.2.2.1]
  refine ⟨fun z => absurd ((nI_leI (a := 21) (by decide) (by omega)).mp z) (by omega), fun _ => t_readOuter hT ht hp hf (fun M1 t1 o1 f1 => ?_)⟩
  unfold rdW at hQ1 hQ0
  have r1 : FrR f M M1 := f1.r (by omega) (by omega)
  cases ho : (rdO t p).1 with
  | none =>
    rw [ho] at hQ0
    exact ⟨fun _ => hQ0 rfl M1 t1 r1, fun z => absurd rfl z⟩
  | some o =>
    rw [ho] at hQ1 hQ0
    dsimp only at hQ1 hQ0
    refine ⟨fun z => absurd z b1, fun _ => t_readHold t1 ht h1.2 hf (fun M2 t2 o2 f2 => ?_)⟩
    have r2 : FrR f M M2 := r1.tr (f2.r (by omega) (by omega))
    cases hh : (rdH t (rdO t p).2).1 with
    | none =>
      rw [hh] at hQ0
      exact ⟨fun _ => hQ0 rfl M2 t2 r2, fun z => absurd rfl z⟩
    | some hb =>
      rw [hh] at hQ1 hQ0
      dsimp only at hQ1 hQ0
      refine ⟨fun z => absurd z b1, fun _ => t_readBottoms t2 ht h2.2 hf (fun M3 t3 o3 f3 => ?_)⟩
      have r3 : FrR f M M3 := r2.tr (f3.r (by omega) (by omega))
      cases hbt : (rdB t (rdH t (rdO t p).2).2).1 with
      | none =>
        rw [hbt] at hQ0
        exact ⟨fun z => absurd rfl z, fun _ => hQ0 rfl M3 t3 r3⟩
      | some b =>
        rw [hbt] at hQ1
        refine ⟨fun _ => ?_, fun z => absurd b1 z⟩
        rw [t3.2.2.1, nI_1]
        obtain ⟨g1, g2, g3, g4⟩ := t3
        refine hQ1 (o, hb.1, hb.2, b) rfl _ ⟨?_, ?_, by simp [up2], fun i hi => by rw [up2_ne _ _ _ (by decide)]; exact g4 i hi⟩ ⟨?_, ?_, ?_, ?_⟩ (fun c i hc hi => by rw [up2_ne _ _ _ hc]; exact r3 c i hc hi)
        · rw [show up2 M3 31 3 (nI (f + 1)) 31 1 = M3 31 1 by simp [up2]]; exact g1
        · rw [show up2 M3 31 3 (nI (f + 1)) 31 2 = M3 31 2 by simp [up2]]; exact g2
        · rw [up2_ne _ _ _ (by decide), f3 33 f (by decide) (Or.inl (by decide)), f2 33 f (by decide) (Or.inl (by decide))]; exact o1 o ho
        · rw [up2_ne _ _ _ (by decide), f3 34 f (by decide) (Or.inl (by decide))]; exact (o2 hb hh).1
        · intro z
          rw [up2_ne _ _ _ (by decide), f3 35 f (by decide) (Or.inl (by decide))]; exact (o2 hb hh).2 z
        · rw [up2_ne _ _ _ (by decide)]; exact o3 b hbt
end XP

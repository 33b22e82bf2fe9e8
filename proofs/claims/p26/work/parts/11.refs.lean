/-! the references behind the constructors: none but those that the layout tells -/
def InvP (σ : Mm) : Prop := ∀ c k, σ.1 ≤ c ∨ 16 ≤ k → σ.2.2.1 c k = none
theorem nf_le (ci : Nat) : nf ci ≤ 16 := by
  match ci with
  | 0 => decide
  | 1 => decide
  | 2 => decide
  | 3 => decide
  | k + 4 => exact Nat.zero_le _
theorem SH5_le : ∀ c, (SH c).1 = 5 → (SH c).2 ≤ 16 := by
  have h : ∀ q ∈ SHL, q.1 = 5 → q.2 ≤ 16 := by decide
  intro c hc
  by_cases hl : c < SHL.length
  · have e : SH c = SHL[c] := by unfold SH; rw [List.getD_eq_getElem?_getD, List.getElem?_eq_getElem hl]; rfl
    rw [e] at hc ⊢
    exact h _ (List.getElem_mem hl) hc
  · have e : SH c = (9, 0) := by unfold SH; rw [List.getD_eq_getElem?_getD, List.getElem?_eq_none (by omega)]; rfl
    rw [e] at hc
    cases hc
theorem InvP_alc {σ : Mm} (h : InvP σ) : InvP (alc σ) := by
  intro c k hk
  show rw2 σ.2.2.1 σ.1 (fun _ => none) c k = none
  by_cases hc : c = σ.1
  · subst hc; rw [rw2_row]
  · rw [rw2_ne _ _ hc]
    refine h c k ?_
    rcases hk with hk | hk
    · have : σ.1 + 1 ≤ c := hk
      exact Or.inl (by omega)
    · exact Or.inr hk
theorem InvP_setP {σ : Mm} (h : InvP σ) {c k : Nat} (x : Option Nat) (hc : c < σ.1) (hk : k < 16) : InvP (setP σ c k x) := by
  intro a j hj
  show up2 σ.2.2.1 c k x a j = none
  have : ¬ (a = c ∧ j = k) := by
    rintro ⟨rfl, rfl⟩
    rcases hj with hj | hj
    · exact absurd hc (Nat.not_lt.mpr hj)
    · omega
  unfold up2
  rw [if_neg this]
  exact h a j hj
set_option maxHeartbeats 4000000 in
theorem stepE_inv {dd : Nat} {call : Nat → List Value → Mm → Option (Option Value × Mm)} (hc : ∀ y as σ v σ1, call y as σ = some (v, σ1) → InvP σ → InvP σ1) (y pc : Nat) (L : Lc) (st : List Value) (σ : Mm) (pc1 : Nat) (L1 : Lc) (st1 : List Value) (σ1 : Mm)
    (h : stepE dd call y pc L st σ = some (.inl (pc1, L1, st1, σ1))) (hI : InvP σ) : InvP σ1 := by
  unfold stepE at h
  cases hT : TB y pc with
  | none => rw [hT] at h; cases h
  | some q =>
    obtain ⟨i, n⟩ := q
    rw [hT] at h
    cases i
    all_goals (dsimp only at h)
    all_goals (repeat' (split at h))
    all_goals (try (cases h; done))
    all_goals (cases h)
    all_goals first
      | exact hI
      | exact InvP_alc hI
      | exact hc _ _ _ _ _ (by assumption) hI
      | skip
    · rename_i h0
      exact InvP_setP hI _ h0.2.1 (Nat.lt_of_lt_of_le (by have := h0.2.2.2.1; exact Nat.not_le.mp fun q => this (Or.inr q)) (SH5_le _ h0.2.2.1))
    · first
        | (rename_i h0 a h1; exact InvP_setP hI _ h0.2.1 (Nat.lt_of_lt_of_le h0.2.2.2.1 (nf_le _)))
        | (rename_i h0 v a h1; exact InvP_setP hI _ h0.2.1 (Nat.lt_of_lt_of_le h0.2.2.2.1 (nf_le _)))
        | (rename_i h0 u v a h1; exact InvP_setP hI _ h0.2.1 (Nat.lt_of_lt_of_le h0.2.2.2.1 (nf_le _)))
theorem runE_inv {dd : Nat} {call : Nat → List Value → Mm → Option (Option Value × Mm)} (hc : ∀ y as σ v σ1, call y as σ = some (v, σ1) → InvP σ → InvP σ1) (y : Nat) :
    ∀ (n pc : Nat) (L : Lc) (st : List Value) (σ : Mm) (v : Option Value) (σf : Mm), runE dd call y n pc L st σ = some (v, σf) → InvP σ → InvP σf
  | 0, _, _, _, _, _, _, h, _ => by cases h
  | n + 1, pc, L, st, σ, v, σf, h, hI => by
    unfold runE at h
    cases hs : stepE dd call y pc L st σ with
    | none => rw [hs] at h; cases h
    | some q =>
      rw [hs] at h
      rcases q with ⟨pc1, L1, st1, σ1⟩ | q
      · exact runE_inv hc y n pc1 L1 st1 σ1 v σf h (stepE_inv hc y pc L st σ pc1 L1 st1 σ1 hs hI)
      · dsimp only at h
        cases h
        rw [← (stepE_ret (callP := fun _ _ _ _ _ => True) y pc L st σ v σf hs).1]
        exact hI
theorem execE_inv (fuel : Nat) : ∀ (d y : Nat) (as : List Value) (σ : Mm) (v : Option Value) (σ1 : Mm), execE fuel d y as σ = some (v, σ1) → InvP σ → InvP σ1
  | 0, _, _, _, _, _, h, _ => by cases h
  | d + 1, y, as, σ, v, σ1, h, hI => by
    unfold execE at h
    split at h
    · exact runE_inv (fun y as σ v σ1 h => execE_inv fuel d y as σ v σ1 h) y fuel 0 _ _ _ _ _ h hI
    · cases h
set_option maxRecDepth 100000 in
set_option maxHeartbeats 4000000 in
theorem mX_inv : InvP mX := execE_inv 400 9 nX3_init [.ref 0] (alc (0, fun _ _ => 0, fun _ _ => none, fun _ _ => 0)) none mX (opt_get (by decide +kernel)) (InvP_alc (fun _ _ _ => rfl))
/-- the references of the layout: State S at S + 1 .. S + 8 -/
def PFS (S : Nat) (k : Nat) : Option Nat := if 7 ≤ k ∧ k < 15 then some (S + (k - 6)) else none
def PF (c k : Nat) : Option Nat := match c with
  | 0 => [some 1, some 10, some 19, some 28, some 29, some 31].getD k none
  | 1 => PFS 1 k
  | 10 => PFS 10 k
  | 19 => PFS 19 k
  | 28 => [some 37, some 46, some 55, some 64].getD k none
  | 29 => if k = 2 then some 30 else none
  | 31 => [some 32, none, none, none, some 33, some 34, some 35, some 36].getD k none
  | 37 => PFS 37 k
  | 46 => PFS 46 k
  | 55 => PFS 55 k
  | 64 => PFS 64 k
  | _ => none
set_option maxRecDepth 100000 in
set_option maxHeartbeats 4000000 in
theorem PF_in : ((List.range 73).all fun c => (List.range 16).all fun k => mX.2.2.1 c k == PF c k) = true := by decide +kernel
theorem PF_eq : mX.2.2.1 = PF := by
  funext c k
  by_cases h : c < 73 ∧ k < 16
  · have h1 := List.all_eq_true.mp (List.all_eq_true.mp PF_in c (List.mem_range.mpr h.1)) k (List.mem_range.mpr h.2)
    simpa using h1
  · rw [mX_inv c k (by rw [mX_n]; omega)]
    unfold PF
    split <;> first | rfl | (unfold PFS; rw [if_neg (by omega)]) | (rw [List.getD_eq_getElem?_getD, List.getElem?_eq_none (by simp; omega)]; rfl) | (rw [if_neg (by omega)])

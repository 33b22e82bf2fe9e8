/-! THE CONSTRUCTORS, by computing: an executable step for their instructions -/
/-- what comes behind a step: a point to go on from, or an answer -/
abbrev Nx : Type := (Nat × Lc × List Value × Mm) ⊕ (Option Value × Mm)
def stepE (dd : Nat) (call : Nat → List Value → Mm → Option (Option Value × Mm)) (y pc : Nat) (L : Lc) (st : List Value) (σ : Mm) : Option Nx :=
  match TB y pc with
  | none => none
  | some (i, n) => match i with
    | .aload_n k => match lk L k with
      | some (.ref a) => if n = 1 then some (.inl (pc + 1, L, .ref a :: st, σ)) else none
      | _ => none
    | .iload_n k => match lk L k with
      | some (.int x) => if n = 1 then some (.inl (pc + 1, L, .int x :: st, σ)) else none
      | _ => none
    | .istore_n k => match st with
      | .int x :: r => if n = 1 ∧ (k : Nat) < mml y then some (.inl (pc + 1, st1 L k (.int x), r, σ)) else none
      | _ => none
    | .iinc k v => match lk L k with
      | some (.int x) => if n = 3 ∧ k < mml y then some (.inl (pc + 3, st1 L k (.int (x + Int32.ofInt v)), st, σ)) else none
      | _ => none
    | .iconst v => if n = 1 then some (.inl (pc + 1, L, .int (Int32.ofInt v) :: st, σ)) else none
    | .bipush v => if n = 2 then some (.inl (pc + 2, L, .int (Int8.ofInt v).toInt32 :: st, σ)) else none
    | .sipush v => if n = 3 then some (.inl (pc + 3, L, .int (Int16.ofInt v).toInt32 :: st, σ)) else none
    | .iadd => match st with
      | .int b :: .int a :: r => if n = 1 then some (.inl (pc + 1, L, .int (a + b) :: r, σ)) else none
      | _ => none
    | .imul => match st with
      | .int b :: .int a :: r => if n = 1 then some (.inl (pc + 1, L, .int (a * b) :: r, σ)) else none
      | _ => none
    | .dup => match st with
      | v :: r => if n = 1 ∧ v.category = 1 then some (.inl (pc + 1, L, v :: v :: r, σ)) else none
      | _ => none
    | .if_icmp q off => match q, st with
      | .ge, .int b :: .int a :: r => if n = 3 ∧ (pc : Int) + off = ((tg pc off : Nat) : Int) then some (.inl (if b ≤ a then tg pc off else pc + 3, L, r, σ)) else none
      | _, _ => none
    | .goto off => if n = 3 ∧ (pc : Int) + off = ((tg pc off : Nat) : Int) then some (.inl (tg pc off, L, st, σ)) else none
    | .ireturn => match st with
      | [.int x] => if n = 1 ∧ mrt y = some .int then some (.inr (some (.int x), σ)) else none
      | _ => none
    | .return_ => match st with
      | [] => if n = 1 ∧ mrt y = none then some (.inr (none, σ)) else none
      | _ => none
    | .getfield ix => match st with
      | .ref c :: r => match fld (mown y) ix with
        | some (ci, k) => if n = 3 ∧ c < σ.1 ∧ SH c = (0, ci) ∧ k < nf ci then some (.inl (pc + 3, L, fv σ c ci k :: r, σ)) else none
        | none => none
      | _ => none
    | .putfield ix => match st with
      | v :: .ref c :: r => match fld (mown y) ix with
        | some (ci, k) => if n = 3 ∧ c < σ.1 ∧ SH c = (0, ci) ∧ k < nf ci ∧ (fin ci k = true → (mnm y).name = "<init>" ∧ mown y = ci) then
            match v with
            | .int x => if fkd ci k = 0 ∨ (fkd ci k = 1 ∧ (x = 0 ∨ x = 1)) then some (.inl (pc + 3, L, r, setI σ c k x)) else none
            | .ref a => if fkd ci k = 2 then some (.inl (pc + 3, L, r, setP σ c k (some a))) else none
            | _ => none
          else none
        | none => none
      | _ => none
    | .iastore => match st with
      | .int x :: .int i :: .ref c :: r => if n = 1 ∧ c < σ.1 ∧ (SH c).1 = 1 ∧ ¬ (i < 0 ∨ (SH c).2 ≤ i.toNatClampNeg) then some (.inl (pc + 1, L, r, setI σ c i.toNatClampNeg x)) else none
      | _ => none
    | .aastore => match st with
      | .ref a :: .int i :: .ref c :: r => if n = 1 ∧ c < σ.1 ∧ (SH c).1 = 5 ∧ ¬ (i < 0 ∨ (SH c).2 ≤ i.toNatClampNeg) ∧ a < σ.1 ∧ SH a = (0, 2) then some (.inl (pc + 1, L, r, setP σ c i.toNatClampNeg (some a))) else none
      | _ => none
    | .newarray t => match st with
      | .int z :: r => if n = 2 ∧ atk t < 8 ∧ SH σ.1 = (atk t, z.toNatClampNeg) ∧ ¬ z < 0 ∧ z.toNatClampNeg ≤ 6000 then some (.inl (pc + 2, L, .ref σ.1 :: r, alc σ)) else none
      | _ => none
    | .anewarray ix => match st with
      | .int z :: r => if n = 3 ∧ nwc (mown y) ix = some 2 ∧ SH σ.1 = (5, z.toNatClampNeg) ∧ ¬ z < 0 ∧ z.toNatClampNeg ≤ 6000 then some (.inl (pc + 3, L, .ref σ.1 :: r, alc σ)) else none
      | _ => none
    | .new ix => match nwc (mown y) ix with
      | some ci => if n = 3 ∧ SH σ.1 = (0, ci) then some (.inl (pc + 3, L, .ref σ.1 :: st, alc σ)) else none
      | none => none
    | .invokestatic ix => match st with
      | .int a :: r => match lnk (mown y) ix with
        | some (1, y1) => if n = 3 ∧ mna y1 = 1 ∧ stw r ≤ 8 then (match call y1 [.int a] σ with
            | some (v, σ1) => some (.inl (pc + 3, L, v.toList ++ r, σ1))
            | none => none) else none
        | _ => none
      | _ => none
    | .invokespecial ix => match st with
      | .ref c :: r => match lnk (mown y) ix with
        | some (5, 0) => if n = 3 ∧ stw r ≤ 8 ∧ 1 ≤ dd then some (.inl (pc + 3, L, r, σ)) else none
        | some (kd, y1) => if n = 3 ∧ (kd = 2 ∨ kd = 4) ∧ mna y1 = 0 ∧ stw r ≤ 8 then (match call y1 [.ref c] σ with
            | some (none, σ1) => some (.inl (pc + 3, L, r, σ1))
            | _ => none) else none
        | none => none
      | _ => none
    | _ => none
def runE (dd : Nat) (call : Nat → List Value → Mm → Option (Option Value × Mm)) (y : Nat) : Nat → Nat → Lc → List Value → Mm → Option (Option Value × Mm)
  | 0, _, _, _, _ => none
  | n + 1, pc, L, st, σ => match stepE dd call y pc L st σ with
    | some (.inl (pc1, L1, st1, σ1)) => runE dd call y n pc1 L1 st1 σ1
    | some (.inr q) => some q
    | none => none
def execE (fuel : Nat) : Nat → Nat → List Value → Mm → Option (Option Value × Mm)
  | 0, _, _, _ => none
  | d + 1, y, as, σ => if y < yLAW ∧ stw as ≤ mml y then runE d (execE fuel d) y fuel 0 (lv_args 0 as) [] σ else none
set_option maxHeartbeats 4000000 in
theorem stepE_ok {dd : Nat} {call : Nat → List Value → Mm → Option (Option Value × Mm)} {callP : Cal} (hc : ∀ y as σ v σ1, call y as σ = some (v, σ1) → σ.1 ≤ σ1.1 ∧ callP y as σ v σ1) (y pc : Nat) (L : Lc) (st : List Value) (σ : Mm) (pc1 : Nat) (L1 : Lc) (st1 : List Value) (σ1 : Mm)
    (h : stepE dd call y pc L st σ = some (.inl (pc1, L1, st1, σ1))) : σ.1 ≤ σ1.1 ∧ ∀ (NT : Nat) (K : Kn) (Q : Option Value → Mm → Prop), σ1.1 ≤ NT → K pc1 L1 st1 σ1 → stepP dd NT callP none y K Q pc L st σ := by
  unfold stepE at h
  unfold stepP
  cases hT : TB y pc with
  | none => rw [hT] at h; cases h
  | some q =>
    obtain ⟨i, n⟩ := q
    rw [hT] at h
    cases i
    all_goals (dsimp only at h ⊢)
    all_goals (repeat' (split at h))
    all_goals (try (cases h; done))
    all_goals (cases h)
    all_goals first
      | (refine ⟨Nat.le_refl _, fun NT K Q hN hK => ?_⟩; simp_all [isR, tgOk, retI, vp_in, cnd]; done)
      | (refine ⟨Nat.le_succ _, fun NT K Q hN hK => ?_⟩; have hN2 : σ.1 < NT := hN; simp_all [isR, tgOk, retI, vp_in]; done)
      | skip
    · rename_i a i c h0
      obtain ⟨h1, h2, h3, h4, h5, h6⟩ := h0
      exact ⟨Nat.le_refl _, fun NT K Q hN hK => ⟨h1, a, i, c, _, rfl, h2, h3, h4, h5, h6, hK⟩⟩
    · rename_i b a r h0
      exact ⟨Nat.le_refl _, fun NT K Q hN hK => ⟨h0, a, b, _, rfl, hK⟩⟩
    · rename_i x i c h0
      obtain ⟨h1, h2, h3, h4⟩ := h0
      exact ⟨Nat.le_refl _, fun NT K Q hN hK => ⟨h1, x, i, c, _, rfl, h2, h3, h4, hK⟩⟩
    · rename_i b a h1 h2
      exact ⟨Nat.le_refl _, fun NT K Q hN hK => ⟨h1.1, h1.2, a, b, _, rfl, fun _ => hK, fun z => absurd h2 z⟩⟩
    · rename_i b a h1 h2
      exact ⟨Nat.le_refl _, fun NT K Q hN hK => ⟨h1.1, h1.2, a, b, _, rfl, fun z => absurd z h2, fun _ => hK⟩⟩
    · rename_i b a r h0
      exact ⟨Nat.le_refl _, fun NT K Q hN hK => ⟨h0, a, b, _, rfl, hK⟩⟩
    · rename_i c x2 kd y1 x1 hl x0 h0 hq
      obtain ⟨g1, g2⟩ := hc _ _ _ _ _ hq
      exact ⟨g1, fun NT K Q hN hK => ⟨h0.1, Or.inl ⟨y1, [], c, _, σ1, kd, hl, h0.2.1, rfl, h0.2.2.1.symm, h0.2.2.2, g2, hN, hK⟩⟩⟩
    · rename_i a r x1 y1 hl h0 x0 v hq
      obtain ⟨g1, g2⟩ := hc _ _ _ _ _ hq
      exact ⟨g1, fun NT K Q hN hK => ⟨h0.1, Or.inl ⟨y1, [.int a], r, v, σ1, 1, hl, Or.inl rfl, rfl, h0.2.1.symm, h0.2.2, g2, hN, hK⟩⟩⟩
set_option maxHeartbeats 4000000 in
theorem stepE_ret {dd : Nat} {call : Nat → List Value → Mm → Option (Option Value × Mm)} {callP : Cal} (y pc : Nat) (L : Lc) (st : List Value) (σ : Mm) (v : Option Value) (σ1 : Mm)
    (h : stepE dd call y pc L st σ = some (.inr (v, σ1))) : σ = σ1 ∧ ∀ (NT : Nat) (K : Kn) (Q : Option Value → Mm → Prop), Q v σ1 → stepP dd NT callP none y K Q pc L st σ := by
  unfold stepE at h
  unfold stepP
  cases hT : TB y pc with
  | none => rw [hT] at h; cases h
  | some q =>
    obtain ⟨i, n⟩ := q
    rw [hT] at h
    cases i
    all_goals (dsimp only at h ⊢)
    all_goals (repeat' (split at h))
    all_goals (try (cases h; done))
    · rename_i x h0
      cases h
      exact ⟨rfl, fun NT K Q hQ => ⟨h0.1, x, rfl, Or.inl h0.2, hQ⟩⟩
    · rename_i h0
      cases h
      exact ⟨rfl, fun NT K Q hQ => ⟨h0.1, rfl, h0.2, hQ⟩⟩
theorem runE_ok {dd : Nat} {call : Nat → List Value → Mm → Option (Option Value × Mm)} {callP : Cal} (hc : ∀ y as σ v σ1, call y as σ = some (v, σ1) → σ.1 ≤ σ1.1 ∧ callP y as σ v σ1) (y : Nat) :
    ∀ (n pc : Nat) (L : Lc) (st : List Value) (σ : Mm) (v : Option Value) (σf : Mm), runE dd call y n pc L st σ = some (v, σf) → σ.1 ≤ σf.1 ∧ runP dd σf.1 callP none y (fun v2 σ2 => v2 = v ∧ σ2 = σf) n pc L st σ
  | 0, _, _, _, _, _, _, h => by cases h
  | n + 1, pc, L, st, σ, v, σf, h => by
    unfold runE at h
    cases hs : stepE dd call y pc L st σ with
    | none => rw [hs] at h; cases h
    | some q =>
      rw [hs] at h
      rcases q with ⟨pc1, L1, st1, σ1⟩ | q
      · obtain ⟨g1, g2⟩ := runE_ok hc y n pc1 L1 st1 σ1 v σf h
        obtain ⟨k1, k2⟩ := stepE_ok hc y pc L st σ pc1 L1 st1 σ1 hs
        exact ⟨Nat.le_trans k1 g1, k2 _ _ _ g1 g2⟩
      · dsimp only at h
        cases h
        obtain ⟨k1, k2⟩ := stepE_ret (callP := callP) y pc L st σ v σf hs
        subst k1
        exact ⟨Nat.le_refl _, k2 _ _ _ ⟨rfl, rfl⟩⟩
theorem execE_ok (fuel : Nat) : ∀ (d y : Nat) (as : List Value) (σ : Mm) (v : Option Value) (σ1 : Mm), execE fuel d y as σ = some (v, σ1) → σ.1 ≤ σ1.1 ∧ Exec d y as σ v σ1
  | 0, _, _, _, _, _, h => by cases h
  | d + 1, y, as, σ, v, σ1, h => by
    unfold execE at h
    split at h
    · rename_i h0
      obtain ⟨g1, g2⟩ := runE_ok (fun y as σ v σ1 h => execE_ok fuel d y as σ v σ1 h) y fuel 0 _ _ _ _ _ h
      exact ⟨g1, g1, h0.1, h0.2, fuel, g2⟩
    · cases h
/-- the memory behind both constructors -/
def mX : Mm := ((execE 400 9 nX3_init [.ref 0] (alc (0, fun _ _ => 0, fun _ _ => none, fun _ _ => 0))).getD (none, (0, fun _ _ => 0, fun _ _ => none, fun _ _ => 0))).2
theorem opt_get {α : Type} {o : Option (Option Value × α)} {d : Option Value × α} (h : o.map (fun q => q.1) = some none) : o = some (none, (o.getD d).2) := by
  cases o with
  | none => cases h
  | some q =>
    obtain ⟨v, a⟩ := q
    cases v with
    | none => rfl
    | some v => cases h
set_option maxRecDepth 100000 in
set_option maxHeartbeats 4000000 in
theorem initX_ok : Exec 9 nX3_init [.ref 0] (alc (0, fun _ _ => 0, fun _ _ => none, fun _ _ => 0)) none mX := (execE_ok 400 9 _ _ _ _ _ (opt_get (by decide +kernel))).2
set_option maxRecDepth 100000 in
theorem mX_n : mX.1 = 73 := by decide +kernel

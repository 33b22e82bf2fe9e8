/-! the law's whole run, from its first instruction -/
set_option maxHeartbeats 4000000 in
theorem stepP_q {dd NT y pc : Nat} {call : Cal} {scr : Option (Nat × (Nat → Int32))} {K K1 : Kn} {Q Q1 : Option Value → Mm → Prop} {L : Lc} {st : List Value} {σ : Mm} (hQ : ∀ v σ, Q v σ → Q1 v σ) (hK : ∀ pc L st σ, K pc L st σ → K1 pc L st σ) : stepP dd NT call scr y K Q pc L st σ → stepP dd NT call scr y K1 Q1 pc L st σ := by
  unfold stepP
  cases TB y pc with
  | none => exact id
  | some q =>
    obtain ⟨i, n⟩ := q
    cases i
    all_goals (dsimp only)
    all_goals (repeat' (first
      | exact id
      | exact hK _ _ _ _
      | exact hQ _ _
      | exact fun f z => hK _ _ _ _ (f z)
      | exact fun f z => ⟨(f z).1, hK _ _ _ _ (f z).2⟩
      | refine And.imp ?_ ?_
      | refine Or.imp ?_ ?_
      | refine Exists.imp (fun _ => ?_)
      | refine (fun f z => Exists.imp (fun _ => ?_) (f z))))
theorem runP_q {dd NT y : Nat} {call : Cal} {scr : Option (Nat × (Nat → Int32))} {Q Q1 : Option Value → Mm → Prop} (hQ : ∀ v σ, Q v σ → Q1 v σ) : ∀ (n pc : Nat) (L : Lc) (st : List Value) (σ : Mm), runP dd NT call scr y Q n pc L st σ → runP dd NT call scr y Q1 n pc L st σ
  | 0, _, _, _, _, h => h.elim
  | n + 1, _, _, _, _, h => stepP_q hQ (fun pc L st σ hk => runP_q hQ n pc L st σ hk) h
set_option maxRecDepth 100000 in
set_option maxHeartbeats 4000000 in
theorem law_run {L : Nat} (hL : L ≤ 260) (xs : Nat → Int32) : ∃ n, runP 9 73 (ExecS (some (L, xs)) 9) (some (L, xs)) yLAW (fun v σ => v = some (.int 1) ∧ σ.1 ≤ 73) n 0 [(0, .retAddr 0)] [] σ00 := by
  obtain ⟨v, M1, h1, D1, ⟨x, hv, A1, hx, -⟩, n, hr⟩ := T_law (xs := xs) hL mI (PF 28) mD IX_0
  have hx : x = 1 := hx
  subst hx
  have e0 : rs mI (PF 28) mD = mX := mX_rs.symm
  rw [e0] at hr
  have s8 : runP 9 73 (ExecS (some (L, xs)) 9) (some (L, xs)) 77 (fun v σ => v = some (.int 1) ∧ σ.1 ≤ 73) n 8 [(1, .ref 0), (0, .retAddr 0)] [] mX := runP_q (fun w σ hw => ⟨hw.1.trans hv, by rw [hw.2]; exact Nat.le_refl 73⟩) n 8 _ _ _ hr
  have s7 : runP 9 73 (ExecS (some (L, xs)) 9) (some (L, xs)) 77 (fun v σ => v = some (.int 1) ∧ σ.1 ≤ 73) (n + 1) 7 [(0, .retAddr 0)] [.ref 0] mX := by
    unfold runP stepP
    rw [TBof tbs_77 7 rfl]
    exact ⟨rfl, by rw [ml_77]; decide, 0, [], rfl, s8⟩
  have s4 : runP 9 73 (ExecS (some (L, xs)) 9) (some (L, xs)) 77 (fun v σ => v = some (.int 1) ∧ σ.1 ≤ 73) (n + 2) 4 [(0, .retAddr 0)] [.ref 0, .ref 0] (alc σ00) := by
    unfold runP stepP
    rw [TBof tbs_77 4 rfl]
    exact ⟨rfl, Or.inl ⟨38, [], 0, [.ref 0], mX, 2, rfl, Or.inl rfl, rfl, rfl, by decide, exec_sc 9 _ _ _ _ _ initX_ok, by rw [mX_n]; exact Nat.le_refl _, s7⟩⟩
  have s3 : runP 9 73 (ExecS (some (L, xs)) 9) (some (L, xs)) 77 (fun v σ => v = some (.int 1) ∧ σ.1 ≤ 73) (n + 3) 3 [(0, .retAddr 0)] [.ref 0] (alc σ00) := by
    unfold runP stepP
    rw [TBof tbs_77 3 rfl]
    exact ⟨rfl, .ref 0, [], rfl, rfl, s4⟩
  refine ⟨n + 4, ?_⟩
  unfold runP stepP
  rw [TBof tbs_77 0 rfl]
  exact ⟨rfl, 3, rfl, rfl, by decide, s3⟩

/-! the law's whole run -/
set_option maxRecDepth 100000 in
set_option maxHeartbeats 4000000 in
theorem law_run {L : Nat} (hL : L ≤ 2560) (xs : Nat → Int32) : ∃ n, runP 9 84 (Exec 9) (some (L, xs)) yLAW (fun v σ => v = some (.int 1) ∧ σ.1 ≤ 84) n 0 [(0, .retAddr 0)] [] σ00 := by
  obtain ⟨v, M1, h1, D1, hv, n, hr⟩ := law_loop (xs := xs) (Q := fun v _ _ _ => v = some (.int 1)) hL (fun _ _ _ => rfl) (L + 1) 0 mI (PF 28) mD A0 (by omega) (by omega) IX_0 IM_0 wfA_0
  have e0 : rs mI (PF 28) mD = mXM := mXM_rs.symm
  have el : Lw (5 * 0) = [(3, .int 0), (2, .ref 73), (1, .ref 0), (0, .retAddr 0)] := rfl
  rw [e0, el] at hr
  have s18 : runP 9 84 (Exec 9) (some (L, xs)) 153 (fun v σ => v = some (.int 1) ∧ σ.1 ≤ 84) n 18 [(3, .int 0), (2, .ref 73), (1, .ref 0), (0, .retAddr 0)] [] mXM := runP_q (fun w σ hw => ⟨hw.1.trans hv, by rw [hw.2]; exact Nat.le_refl 84⟩) n 18 _ _ _ hr
  have s17 : runP 9 84 (Exec 9) (some (L, xs)) 153 (fun v σ => v = some (.int 1) ∧ σ.1 ≤ 84) (n + 1) 17 [(2, .ref 73), (1, .ref 0), (0, .retAddr 0)] [.int 0] mXM := by
    unfold runP stepP
    rw [TBof tbs_153 17 rfl]
    exact ⟨rfl, by rw [ml_153]; decide, 0, [], rfl, s18⟩
  have s16 : runP 9 84 (Exec 9) (some (L, xs)) 153 (fun v σ => v = some (.int 1) ∧ σ.1 ≤ 84) (n + 2) 16 [(2, .ref 73), (1, .ref 0), (0, .retAddr 0)] [] mXM := by
    unfold runP stepP
    rw [TBof tbs_153 16 rfl]
    exact ⟨rfl, s17⟩
  have s15 : runP 9 84 (Exec 9) (some (L, xs)) 153 (fun v σ => v = some (.int 1) ∧ σ.1 ≤ 84) (n + 3) 15 [(1, .ref 0), (0, .retAddr 0)] [.ref 73] mXM := by
    unfold runP stepP
    rw [TBof tbs_153 15 rfl]
    exact ⟨rfl, by rw [ml_153]; decide, 73, [], rfl, s16⟩
  have s12 : runP 9 84 (Exec 9) (some (L, xs)) 153 (fun v σ => v = some (.int 1) ∧ σ.1 ≤ 84) (n + 4) 12 [(1, .ref 0), (0, .retAddr 0)] [.ref 73, .ref 73] (alc mX) := by
    unfold runP stepP
    rw [TBof tbs_153 12 rfl]
    exact ⟨rfl, Or.inl ⟨83, [], 73, [.ref 73], mXM, 2, rfl, Or.inl rfl, rfl, rfl, by decide, initM_ok, by rw [mXM_n]; exact Nat.le_refl _, s15⟩⟩
  have s11 : runP 9 84 (Exec 9) (some (L, xs)) 153 (fun v σ => v = some (.int 1) ∧ σ.1 ≤ 84) (n + 5) 11 [(1, .ref 0), (0, .retAddr 0)] [.ref 73] (alc mX) := by
    unfold runP stepP
    rw [TBof tbs_153 11 rfl]
    exact ⟨rfl, .ref 73, [], rfl, rfl, s12⟩
  have s8 : runP 9 84 (Exec 9) (some (L, xs)) 153 (fun v σ => v = some (.int 1) ∧ σ.1 ≤ 84) (n + 6) 8 [(1, .ref 0), (0, .retAddr 0)] [] mX := by
    unfold runP stepP
    rw [TBof tbs_153 8 rfl]
    refine ⟨rfl, 4, rfl, ?_, ?_, ?_⟩
    · rw [mX_n]; rfl
    · rw [mX_n]; decide
    · rw [mX_n]; exact s11
  have s7 : runP 9 84 (Exec 9) (some (L, xs)) 153 (fun v σ => v = some (.int 1) ∧ σ.1 ≤ 84) (n + 7) 7 [(0, .retAddr 0)] [.ref 0] mX := by
    unfold runP stepP
    rw [TBof tbs_153 7 rfl]
    exact ⟨rfl, by rw [ml_153]; decide, 0, [], rfl, s8⟩
  have s4 : runP 9 84 (Exec 9) (some (L, xs)) 153 (fun v σ => v = some (.int 1) ∧ σ.1 ≤ 84) (n + 8) 4 [(0, .retAddr 0)] [.ref 0, .ref 0] (alc σ00) := by
    unfold runP stepP
    rw [TBof tbs_153 4 rfl]
    exact ⟨rfl, Or.inl ⟨48, [], 0, [.ref 0], mX, 2, rfl, Or.inl rfl, rfl, rfl, by decide, initX_ok, by rw [mX_n]; decide, s7⟩⟩
  have s3 : runP 9 84 (Exec 9) (some (L, xs)) 153 (fun v σ => v = some (.int 1) ∧ σ.1 ≤ 84) (n + 9) 3 [(0, .retAddr 0)] [.ref 0] (alc σ00) := by
    unfold runP stepP
    rw [TBof tbs_153 3 rfl]
    exact ⟨rfl, .ref 0, [], rfl, rfl, s4⟩
  refine ⟨n + 10, ?_⟩
  unfold runP stepP
  rw [TBof tbs_153 0 rfl]
  exact ⟨rfl, 3, rfl, rfl, by decide, s3⟩

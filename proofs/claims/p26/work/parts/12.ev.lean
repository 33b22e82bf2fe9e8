/-! RUNS behind the constructors: 73 cells, the references of the layout, but those of the history (h) -/
def PH (h : Nat → Option Nat) : Nat → Nat → Option Nat := fun c k => if c = 28 then h k else PF c k
abbrev Im : Type := Nat → Nat → Int32
abbrev Hm : Type := Nat → Option Nat
abbrev Dm : Type := Nat → Nat → UInt64
def rs (M : Im) (h : Hm) (D : Dm) : Mm := (73, M, PH h, D)
theorem PH_ne {h : Hm} {c k : Nat} (hc : c ≠ 28) : PH h c k = PF c k := if_neg hc
theorem PH_28 {h : Hm} {k : Nat} : PH h 28 k = h k := if_pos rfl
theorem rs_of (σ : Mm) (h1 : σ.1 = 73) (h2 : σ.2.2.1 = PF) : σ = rs σ.2.1 (PF 28) σ.2.2.2 := by
  obtain ⟨N, M, P, D⟩ := σ
  dsimp only at h1 h2
  subst h1; subst h2
  have h3 : PH (PF 28) = PF := by
    funext c k
    by_cases hc : c = 28
    · subst hc; exact PH_28
    · exact PH_ne hc
  unfold rs
  rw [h3]
theorem mX_rs : mX = rs mX.2.1 (PF 28) mX.2.2.2 := rs_of mX mX_n PF_eq
theorem setP_rs {M : Im} {h : Hm} {D : Dm} {k : Nat} {v : Option Nat} : setP (rs M h D) 28 k v = rs M (va_up h k v) D := by
  unfold setP rs
  refine congrArg (fun f => ((73, M, f, D) : Mm)) ?_
  funext c j
  unfold up2 PH va_up
  by_cases hc : c = 28
  · subst hc
    by_cases hj : j = k <;> simp [hj]
  · simp [hc]
/-- a run of a method from a point on comes to an end with Q -/
def Ev (d : Nat) (scr : Option (Nat × (Nat → Int32))) (y pc : Nat) (L : Lc) (st : List Value) (M : Im) (h : Hm) (D : Dm) (Q : Option Value → Im → Hm → Dm → Prop) : Prop :=
  ∃ v M1 h1 D1, Q v M1 h1 D1 ∧ ∃ n, runP d 73 (ExecS scr d) scr y (fun v2 σ2 => v2 = v ∧ σ2 = rs M1 h1 D1) n pc L st (rs M h D)
/-- a call answers an int, nothing, a double -/
def CI (d y : Nat) (as : List Value) (M : Im) (h : Hm) (D : Dm) (Q : Int32 → Im → Hm → Dm → Prop) : Prop := ∃ x M1 h1 D1, Exec d y as (rs M h D) (some (.int x)) (rs M1 h1 D1) ∧ Q x M1 h1 D1
def CV (d y : Nat) (as : List Value) (M : Im) (h : Hm) (D : Dm) (Q : Im → Hm → Dm → Prop) : Prop := ∃ M1 h1 D1, Exec d y as (rs M h D) none (rs M1 h1 D1) ∧ Q M1 h1 D1
def CD (d y : Nat) (as : List Value) (M : Im) (h : Hm) (D : Dm) (Q : UInt64 → Im → Hm → Dm → Prop) : Prop := ∃ x M1 h1 D1, Exec d y as (rs M h D) (some (.double x)) (rs M1 h1 D1) ∧ Q x M1 h1 D1
abbrev EvI (d : Nat) (y pc : Nat) (L : Lc) (st : List Value) (M : Im) (h : Hm) (D : Dm) (Q : Int32 → Im → Hm → Dm → Prop) : Prop := Ev d none y pc L st M h D (fun v M1 h1 D1 => ∃ x, v = some (.int x) ∧ Q x M1 h1 D1)
abbrev EvV (d : Nat) (y pc : Nat) (L : Lc) (st : List Value) (M : Im) (h : Hm) (D : Dm) (Q : Im → Hm → Dm → Prop) : Prop := Ev d none y pc L st M h D (fun v M1 h1 D1 => v = none ∧ Q M1 h1 D1)
abbrev EvD (d : Nat) (y pc : Nat) (L : Lc) (st : List Value) (M : Im) (h : Hm) (D : Dm) (Q : UInt64 → Im → Hm → Dm → Prop) : Prop := Ev d none y pc L st M h D (fun v M1 h1 D1 => ∃ x, v = some (.double x) ∧ Q x M1 h1 D1)
/-! a call over the script -/
theorem sc_no {α : Type} {x : α} {p : Prop} (h : none = some x) : p := by cases h
set_option maxHeartbeats 4000000 in
theorem stepP_sc {dd NT y : Nat} {call call1 : Cal} {scr : Option (Nat × (Nat → Int32))} {K K1 : Kn} {Q : Option Value → Mm → Prop} {pc : Nat} {L : Lc} {st : List Value} {σ : Mm} (hc : ∀ y as σ v σ1, call y as σ v σ1 → call1 y as σ v σ1) (hK : ∀ pc L st σ, K pc L st σ → K1 pc L st σ) : stepP dd NT call none y K Q pc L st σ → stepP dd NT call1 scr y K1 Q pc L st σ := by
  unfold stepP
  cases TB y pc with
  | none => exact id
  | some q =>
    obtain ⟨i, n⟩ := q
    cases i
    all_goals (dsimp only)
    all_goals (repeat' (first
      | exact id
      | exact hK _ _ _ _
      | exact hc _ _ _ _ _
      | exact fun f z => hK _ _ _ _ (f z)
      | exact fun f z => ⟨(f z).1, hK _ _ _ _ (f z).2⟩
      | exact sc_no
      | refine And.imp ?_ ?_
      | refine Or.imp ?_ ?_
      | refine Exists.imp (fun _ => ?_)
      | refine (fun f z => Exists.imp (fun _ => ?_) (f z))))
theorem runP_sc {dd NT y : Nat} {call call1 : Cal} {scr : Option (Nat × (Nat → Int32))} {Q : Option Value → Mm → Prop} (hc : ∀ y as σ v σ1, call y as σ v σ1 → call1 y as σ v σ1) : ∀ (n pc : Nat) (L : Lc) (st : List Value) (σ : Mm), runP dd NT call none y Q n pc L st σ → runP dd NT call1 scr y Q n pc L st σ
  | 0, _, _, _, _, h => h.elim
  | n + 1, _, _, _, _, h => stepP_sc hc (fun pc L st σ hk => runP_sc hc n pc L st σ hk) h
theorem exec_sc {scr : Option (Nat × (Nat → Int32))} : ∀ (d y : Nat) (as : List Value) (σ : Mm) (v : Option Value) (σ1 : Mm), ExecS none d y as σ v σ1 → ExecS scr d y as σ v σ1
  | 0, _, _, _, _, _, h => h.elim
  | d + 1, _, _, _, _, _, ⟨h1, h2, h3, n, h4⟩ => ⟨h1, h2, h3, n, runP_sc (fun y as σ v σ1 h => exec_sc d y as σ v σ1 h) n _ _ _ _ h4⟩
def CIS (scr : Option (Nat × (Nat → Int32))) (d y : Nat) (as : List Value) (M : Im) (h : Hm) (D : Dm) (Q : Int32 → Im → Hm → Dm → Prop) : Prop := ∃ x M1 h1 D1, ExecS scr d y as (rs M h D) (some (.int x)) (rs M1 h1 D1) ∧ Q x M1 h1 D1
abbrev EvIS (scr : Option (Nat × (Nat → Int32))) (d : Nat) (y pc : Nat) (L : Lc) (st : List Value) (M : Im) (h : Hm) (D : Dm) (Q : Int32 → Im → Hm → Dm → Prop) : Prop := Ev d scr y pc L st M h D (fun v M1 h1 D1 => ∃ x, v = some (.int x) ∧ Q x M1 h1 D1)
theorem cis_of {scr : Option (Nat × (Nat → Int32))} {d y : Nat} {as : List Value} {M : Im} {h : Hm} {D : Dm} {Q : Int32 → Im → Hm → Dm → Prop} (hy : Nat.ble (y + 1) yLAW = true) (hw : Nat.ble (stw as) (mml y) = true) (k : EvIS scr d y 0 (lv_args 0 as) [] M h D Q) : CIS scr (d + 1) y as M h D Q := by
  obtain ⟨v, M1, h1, D1, ⟨x, rfl, hq⟩, n, hr⟩ := k
  exact ⟨x, M1, h1, D1, ⟨Nat.le_refl _, Nat.le_of_ble_eq_true hy, Nat.le_of_ble_eq_true hw, n, hr⟩, hq⟩
theorem cis_w {scr : Option (Nat × (Nat → Int32))} {d y : Nat} {as : List Value} {M : Im} {h : Hm} {D : Dm} {Q Q1 : Int32 → Im → Hm → Dm → Prop} (hc : CIS scr d y as M h D Q) (k : ∀ x M1 h1 D1, Q x M1 h1 D1 → Q1 x M1 h1 D1) : CIS scr d y as M h D Q1 := by
  obtain ⟨x, M1, h1, D1, he, hq⟩ := hc; exact ⟨x, M1, h1, D1, he, k _ _ _ _ hq⟩
section EV
variable {d y pc pc1 : Nat} {scr : Option (Nat × (Nat → Int32))} {L : Lc} {st : List Value} {M : Im} {h : Hm} {D : Dm} {as r : List Value}
theorem ci_of {Q : Int32 → Im → Hm → Dm → Prop} (hy : Nat.ble (y + 1) yLAW = true) (hw : Nat.ble (stw as) (mml y) = true) (k : EvI d y 0 (lv_args 0 as) [] M h D Q) : CI (d + 1) y as M h D Q := by
  obtain ⟨v, M1, h1, D1, ⟨x, rfl, hq⟩, n, hr⟩ := k
  exact ⟨x, M1, h1, D1, ⟨Nat.le_refl _, Nat.le_of_ble_eq_true hy, Nat.le_of_ble_eq_true hw, n, hr⟩, hq⟩
theorem cv_of {Q : Im → Hm → Dm → Prop} (hy : Nat.ble (y + 1) yLAW = true) (hw : Nat.ble (stw as) (mml y) = true) (k : EvV d y 0 (lv_args 0 as) [] M h D Q) : CV (d + 1) y as M h D Q := by
  obtain ⟨v, M1, h1, D1, ⟨rfl, hq⟩, n, hr⟩ := k
  exact ⟨M1, h1, D1, ⟨Nat.le_refl _, Nat.le_of_ble_eq_true hy, Nat.le_of_ble_eq_true hw, n, hr⟩, hq⟩
theorem cd_of {Q : UInt64 → Im → Hm → Dm → Prop} (hy : Nat.ble (y + 1) yLAW = true) (hw : Nat.ble (stw as) (mml y) = true) (k : EvD d y 0 (lv_args 0 as) [] M h D Q) : CD (d + 1) y as M h D Q := by
  obtain ⟨v, M1, h1, D1, ⟨x, rfl, hq⟩, n, hr⟩ := k
  exact ⟨x, M1, h1, D1, ⟨Nat.le_refl _, Nat.le_of_ble_eq_true hy, Nat.le_of_ble_eq_true hw, n, hr⟩, hq⟩
theorem ci_w {Q Q1 : Int32 → Im → Hm → Dm → Prop} (hc : CI d y as M h D Q) (k : ∀ x M1 h1 D1, Q x M1 h1 D1 → Q1 x M1 h1 D1) : CI d y as M h D Q1 := by
  obtain ⟨x, M1, h1, D1, he, hq⟩ := hc; exact ⟨x, M1, h1, D1, he, k _ _ _ _ hq⟩
theorem cv_w {Q Q1 : Im → Hm → Dm → Prop} (hc : CV d y as M h D Q) (k : ∀ M1 h1 D1, Q M1 h1 D1 → Q1 M1 h1 D1) : CV d y as M h D Q1 := by
  obtain ⟨M1, h1, D1, he, hq⟩ := hc; exact ⟨M1, h1, D1, he, k _ _ _ hq⟩
theorem cd_w {Q Q1 : UInt64 → Im → Hm → Dm → Prop} (hc : CD d y as M h D Q) (k : ∀ x M1 h1 D1, Q x M1 h1 D1 → Q1 x M1 h1 D1) : CD d y as M h D Q1 := by
  obtain ⟨x, M1, h1, D1, he, hq⟩ := hc; exact ⟨x, M1, h1, D1, he, k _ _ _ _ hq⟩
/-! fewer locals -/
def ndk : List Nat → Bool
  | [] => true
  | a :: r => !(r.contains a) && ndk r
def LE (A B : Lc) : Prop := (∀ q ∈ A, q ∈ B) ∧ (B.map (·.1)).Nodup
theorem ndk_ok : ∀ {l : List Nat}, ndk l = true → l.Nodup
  | [], _ => List.nodup_nil
  | a :: r, h => by
    simp only [ndk, Bool.and_eq_true, Bool.not_eq_true', List.contains_eq_mem, decide_eq_false_iff_not] at h
    exact List.nodup_cons.mpr ⟨h.1, ndk_ok h.2⟩
theorem lk_of : ∀ {B : Lc} {i : Nat} {v : Value}, (B.map (·.1)).Nodup → (i, v) ∈ B → lk B i = some v
  | [], _, _, _, h => absurd h List.not_mem_nil
  | q :: r, i, v, hn, h => by
    rw [List.map_cons, List.nodup_cons] at hn
    unfold lk
    by_cases hq : q.1 = i
    · rw [if_pos hq]
      rcases List.mem_cons.mp h with h | h
      · rw [← h]
      · exact absurd (List.mem_map.mpr ⟨(i, v), h, rfl⟩) (hq ▸ hn.1)
    · rw [if_neg hq]
      rcases List.mem_cons.mp h with h | h
      · rw [← h] at hq; exact absurd rfl hq
      · exact lk_of hn.2 h
theorem LE.lk {A B : Lc} (h : LE A B) {i : Nat} {v : Value} (hv : lk A i = some v) : lk B i = some v := lk_of h.2 (h.1 _ (lk_mem hv))
theorem LE.put {A B : Lc} (h : LE A B) (i : Nat) (v : Value) (p : Nat × Value → Bool) (hp : ∀ q, q.1 = i → p q = false) : LE ((i, v) :: A.filter p) ((i, v) :: B.filter p) := by
  refine ⟨fun q hq => ?_, ?_⟩
  · rcases List.mem_cons.mp hq with rfl | hq
    · exact List.mem_cons_self
    · exact List.mem_cons_of_mem _ (List.mem_filter.mpr ⟨h.1 q (List.mem_filter.mp hq).1, (List.mem_filter.mp hq).2⟩)
  · rw [List.map_cons, List.nodup_cons]
    refine ⟨fun hm => ?_, (h.2.sublist ((List.filter_sublist).map _))⟩
    obtain ⟨q, hq, he⟩ := List.mem_map.mp hm
    have := hp q he
    rw [(List.mem_filter.mp hq).2] at this
    cases this
theorem LE.st1 {A B : Lc} (h : LE A B) (i : Nat) (v : Value) : LE (st1 A i v) (st1 B i v) := h.put i v _ (fun q hq => by simp [hq])
theorem LE.st2 {A B : Lc} (h : LE A B) (i : Nat) (v : Value) : LE (st2 A i v) (st2 B i v) := h.put i v _ (fun q hq => by simp [hq])
set_option maxHeartbeats 4000000 in
theorem stepP_le {dd NT : Nat} {call : Cal} {K K1 : Kn} {Q : Option Value → Mm → Prop} {A B : Lc} {σ : Mm} (hL : LE A B) (hK : ∀ pc A B st σ, LE A B → K pc A st σ → K1 pc B st σ) : stepP dd NT call scr y K Q pc A st σ → stepP dd NT call scr y K1 Q pc B st σ := by
  unfold stepP
  cases TB y pc with
  | none => exact id
  | some q =>
    obtain ⟨i, n⟩ := q
    cases i
    all_goals (dsimp only)
    all_goals (repeat' (first
      | exact id
      | exact hK _ _ _ _ _ hL
      | exact hK _ _ _ _ _ (hL.st1 _ _)
      | exact hK _ _ _ _ _ (hL.st2 _ _)
      | exact fun f z => hK _ _ _ _ _ hL (f z)
      | exact fun f z => ⟨(f z).1, hK _ _ _ _ _ hL (f z).2⟩
      | exact hL.lk
      | refine And.imp ?_ ?_
      | refine Or.imp ?_ ?_
      | refine Exists.imp (fun _ => ?_)
      | refine (fun f z => Exists.imp (fun _ => ?_) (f z))))
theorem runP_le {dd NT : Nat} {call : Cal} {Q : Option Value → Mm → Prop} : ∀ (n pc : Nat) (A B : Lc) (st : List Value) (σ : Mm), LE A B → runP dd NT call scr y Q n pc A st σ → runP dd NT call scr y Q n pc B st σ
  | 0, _, _, _, _, _, _, h => h.elim
  | n + 1, _, _, _, _, _, hL, h => stepP_le hL (fun pc A B st σ hL hk => runP_le n pc A B st σ hL hk) h
theorem ev_le {Q : Option Value → Im → Hm → Dm → Prop} {A : Lc} (ps : List Nat) (hA : A = ps.filterMap (fun i => L[i]?)) (hn : ndk (L.map (·.1)) = true) (k : Ev d scr y pc A st M h D Q) : Ev d scr y pc L st M h D Q := by
  obtain ⟨v, M1, h1, D1, hq, n, hr⟩ := k
  refine ⟨v, M1, h1, D1, hq, n, runP_le n pc A L st _ ⟨fun q hq => ?_, ndk_ok hn⟩ hr⟩
  rw [hA] at hq
  obtain ⟨i, -, hi⟩ := List.mem_filterMap.mp hq
  exact List.mem_of_getElem? hi
end EV

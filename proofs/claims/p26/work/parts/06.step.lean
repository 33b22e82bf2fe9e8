/-! SOUNDNESS, the step -/
def RetOk (y pc : Nat) (v : Option Value) : Prop := match v with
  | none => decode (mcd y) pc = .ok (.return_, 1) ∧ mrt y = none
  | some (.int x) => decode (mcd y) pc = .ok (.ireturn, 1) ∧ retI y x
  | some (.double _) => decode (mcd y) pc = .ok (.dreturn, 1) ∧ mrt y = some .double
  | _ => False
section ST
variable {p : Program} {l : Launch} {e : Env} {R : Room} {s : State} {m : MethodId} {args : Array Value} {below : List Frame} {meth : Method} {c : Code} {Q : State → Prop}
variable {B b : Nat} {dC : Nat → ClassId} {dI : Nat → Nat → Nat} {dA : Nat → ClassId} {N0 dd NT y : Nat} {scr : Option (Nat × (Nat → Int32))} {call : Cal} {K : Kn} {Q1 : Option Value → Mm → Prop}
/-- the world at a point of the frame -/
def HF (B b : Nat) (dC : Nat → ClassId) (dI : Nat → Nat → Nat) (dA : Nat → ClassId) (N0 : Nat) (s : State) (σ : Mm) (H : Heap) (locs : List Loc) (cells slots : Nat) : Prop :=
  va_P (dC, dI) vwCl (wd B b dA σ) H ∧ va_S (fun q => B ≤ q) s.heap H locs ∧ cells + N0 = σ.1 ∧ slots + SZ N0 = SZ σ.1
theorem W_size {σ : Mm} {H : Heap} {locs : List Loc} {cells slots : Nat} {g : JFrame} (hs : s.heap.size = B + N0) (hH : HF B b dC dI dA N0 s σ H locs cells slots) (k : H.size = B + σ.1 → W p l e R s m args below meth c H locs cells slots Q g) : W p l e R s m args below meth c H locs cells slots Q g := by
  intro T hT X
  refine k ?_ T hT X
  have h1 := X.heapSize
  rw [hT] at h1
  obtain ⟨hP, hS, hc, -⟩ := hH
  have h2 := hS.1
  by_cases h0 : σ.1 = 0
  · omega
  · have h3 := (hP (σ.1 - 1) _ (wd_get (by omega))).lt
    dsimp only at h3
    omega
/-- what holds of the frame all along -/
def FX (p : Program) (l : Launch) (R : Room) (s : State) (m : MethodId) (args : Array Value) (meth : Method) (c : Code) (B b : Nat) (dC : Nat → ClassId) (dI : Nat → Nat → Nat) (dA : Nat → ClassId) (N0 dd NT y : Nat) (scr : Option (Nat × (Nat → Int32))) (call : Cal) : Prop :=
  p.tables.exec = Jvm.exec ∧ c.code = mcd y ∧ c.maxLocals = mml y ∧ s.vm.findClass (CN (mown y)) = some m.cls ∧ ((mnm y).name = "<init>" → meth.name = "<init>") ∧ y < NM ∧ (∀ w ∈ WS, w.before args s = true) ∧ dd ≤ R.frames ∧ 35 * dd ≤ R.locals ∧ NT ≤ N0 + R.cells ∧ SZ NT ≤ SZ N0 + R.slots ∧ KK dC dI dA s ∧ s.heap.size = B + N0 ∧
  (∀ len xs, scr = some (len, xs) → va_X b len xs s s.heap ∧ b < s.heap.size ∧ b < B) ∧
  (∀ y1 as σ v σ1, call y1 as σ v σ1 → σ.1 ≤ σ1.1 ∧ y1 < yLAW ∧ ∃ d, d + 1 ≤ dd ∧ CT l B b dC dI dA scr d y1 as σ v σ1)
theorem fkd0 {ci k : Nat} (h : fkd ci k = 0) : tyOf ci k = .int := by
  unfold fkd at h; split at h <;> first | assumption | cases h
theorem fkd1 {ci k : Nat} (h : fkd ci k = 1) : tyOf ci k = .boolean := by
  unfold fkd at h; split at h <;> first | assumption | cases h
theorem fkd2 {ci k : Nat} (h : fkd ci k = 2) (a : Nat) : narrow (tyOf ci k) (.ref a) = .ref a ∧ fits (tyOf ci k) (.ref a) = true := by
  unfold fkd at h
  split at h
  · cases h
  · cases h
  · next h' => rw [h']; exact ⟨rfl, rfl⟩
  · next h' => rw [h']; exact ⟨rfl, rfl⟩
  · cases h
theorem fkd_le : ∀ ci, ci < 4 → ∀ k, k < nf ci → fkd ci k ≤ 2 := by decide +kernel
theorem def_fv {σ : Mm} {ci k : Nat} (h : fkd ci k ≤ 2) : defaultValue (tyOf ci k) = vm B b (fv (alc σ) σ.1 ci k) := by
  have e1 : (alc σ).2.1 σ.1 k = 0 := by simp [alc, rw2]
  have e2 : (alc σ).2.2.1 σ.1 k = none := by simp [alc, rw2]
  unfold fv
  rw [e1, e2]
  unfold fkd at h ⊢
  split at h
  · next h' => rw [h']; rfl
  · next h' => rw [h']; rfl
  · next h' => rw [h']; rfl
  · next h' => rw [h']; rfl
  · omega
theorem map_set {f g : Nat → Value} {n k : Nat} {v : Value} (hk : g k = v) (hne : ∀ j, j ≠ k → g j = f j) : ((List.range n).map f).set k v = (List.range n).map g := by
  apply List.ext_getElem?
  intro j
  rw [List.getElem?_set]
  by_cases h : k = j
  · subst h
    rw [if_pos rfl]
    by_cases hj : k < n
    · simp [hj, hk]
    · simp [hj]
  · rw [if_neg h]
    by_cases hj : j < n
    · simp [hj, hne j (fun q => h q.symm)]
    · simp [hj]
theorem wd_setI {σ : Mm} {cc ci k : Nat} {x : Int32} (hs : SH cc = (0, ci)) (hf : fkd ci k ≠ 2) : (wd B b dA σ).set cc (B + cc, .inr (ci, ((List.range (nf ci)).map (fun k => vm B b (fv σ cc ci k))).set k (.int x))) = wd B b dA (setI σ cc k x) := by
  refine wd_set rfl ?_ (fun a ha => ent_eq (up2_ne _ _ _ ha) rfl rfl)
  rw [ent_o hs]
  congr 2
  refine (map_set ?_ (fun j hj => ?_)).symm
  · have : fv (setI σ cc k x) cc ci k = .int x := by
      unfold fv
      split
      · exact absurd (by assumption) hf
      · simp [setI, up2]
    rw [this]; rfl
  · exact congrArg _ (fv_eq (by simp [setI, up2, hj]) rfl)
theorem wd_setPo {σ : Mm} {cc ci k a : Nat} (hs : SH cc = (0, ci)) (hf : fkd ci k = 2) : (wd B b dA σ).set cc (B + cc, .inr (ci, ((List.range (nf ci)).map (fun k => vm B b (fv σ cc ci k))).set k (.ref (B + a)))) = wd B b dA (setP σ cc k (some a)) := by
  refine wd_set rfl ?_ (fun a ha => ent_eq rfl (up2_ne _ _ _ ha) rfl)
  rw [ent_o hs]
  congr 2
  refine (map_set ?_ (fun j hj => ?_)).symm
  · have : fv (setP σ cc k (some a)) cc ci k = .ref a := by
      unfold fv
      rw [hf]
      simp [setP, up2, vrf]
    rw [this]; rfl
  · exact congrArg _ (fv_eq rfl (by simp [setP, up2, hj]))
theorem wd_setA {σ : Mm} {cc t k : Nat} {x : Int32} (hs : (SH cc).1 = t) (ht : t = 1 ∨ t = 2 ∨ t = 3) : (wd B b dA σ).set cc (B + cc, .inl (dA t, (SH cc).2, .inl (upd (σ.2.1 cc) k x))) = wd B b dA (setI σ cc k x) := by
  refine wd_set rfl ?_ (fun a ha => ent_eq (up2_ne _ _ _ ha) rfl rfl)
  rw [ent_i hs ht]
  simp only [setI, up2_row]
  rfl
theorem wd_setDd {σ : Mm} {cc k : Nat} {x : UInt64} (hs : (SH cc).1 = 4) : (wd B b dA σ).set cc (B + cc, .inl (dA 4, (SH cc).2, .inr (.inr (.inr (.inl (vf_upd (σ.2.2.2 cc) k x)))))) = wd B b dA (setD σ cc k x) := by
  refine wd_set rfl ?_ (fun a ha => ent_eq rfl rfl (up2_ne _ _ _ ha))
  rw [ent_d hs]
  simp only [setD, up2_row]
  rfl
theorem wd_setQ {σ : Mm} {cc k a : Nat} (hs : (SH cc).1 = 5) : (wd B b dA σ).set cc (B + cc, .inl (dA 5, (SH cc).2, .inr (.inr (.inr (.inr (va_up (fun j => (σ.2.2.1 cc j).map (B + ·)) k (some (B + a)))))))) = wd B b dA (setP σ cc k (some a)) := by
  refine wd_set rfl ?_ (fun a ha => ent_eq rfl (up2_ne _ _ _ ha) rfl)
  rw [ent_q hs]
  refine congrArg (fun f => (Sum.inl (dA 5, (SH cc).2, Sum.inr (Sum.inr (Sum.inr (Sum.inr f)))) : va_E)) ?_
  funext j
  simp only [setP, up2_row, va_up]
  by_cases hj : j = k <;> simp [hj]
theorem wd_cpy {σ : Mm} {c0 sp c1 dp n : Nat} (hs : (SH c1).1 = 1) : (wd B b dA σ).set c1 (B + c1, .inl (dA 1, (SH c1).2, .inl (va_cpy (σ.2.1 c0) (σ.2.1 c1) sp dp n))) = wd B b dA (cpyI σ c0 sp c1 dp n) := by
  refine wd_set rfl ?_ (fun a ha => ent_eq ?_ rfl rfl)
  · rw [ent_i hs (Or.inl rfl)]
    refine congrArg (fun f => (Sum.inl (dA 1, (SH c1).2, Sum.inl f) : va_E)) ?_
    funext j
    simp [cpyI, cp2, va_cpy]
  · funext j
    simp [cpyI, cp2, ha]
theorem alc_row {σ : Mm} : (alc σ).2.1 σ.1 = (fun _ => 0) ∧ (alc σ).2.2.1 σ.1 = (fun _ => none) ∧ (alc σ).2.2.2 σ.1 = (fun _ => 0) := ⟨rw2_row _ _ _, rw2_row _ _ _, rw2_row _ _ _⟩
theorem wd_alc {σ : Mm} {x : va_E} (hx : ent B b dA (alc σ) σ.1 = x) : wd B b dA σ ++ [(B + σ.1, x)] = wd B b dA (alc σ) :=
  wd_push rfl hx (fun a ha => ent_eq (rw2_ne _ _ (Nat.ne_of_lt ha)) (rw2_ne _ _ (Nat.ne_of_lt ha)) (rw2_ne _ _ (Nat.ne_of_lt ha)))
/-- a new cell lies where it must -/
theorem W_new {σ : Mm} {x : va_E} {q : Nat} {H : Heap} {locs : List Loc} {cells slots : Nat} {g : JFrame} (hs : s.heap.size = B + N0) (hc : cells + N0 = σ.1) (hP : va_P (dC, dI) vwCl (wd B b dA σ ++ [(q, x)]) H) (hD : va_D (fun q => B ≤ q) (wd B b dA σ ++ [(q, x)])) (k : q = B + σ.1 → W p l e R s m args below meth c H locs (cells + 1) slots Q g) : W p l e R s m args below meth c H locs (cells + 1) slots Q g := by
  intro T hT X
  refine k ?_ T hT X
  have h1 := X.heapSize
  rw [hT] at h1
  have hq : (wd B b dA σ ++ [(q, x)])[σ.1]? = some (q, x) := by
    rw [List.getElem?_append_right (by rw [wd_len]; exact Nat.le_refl _), wd_len, Nat.sub_self]; rfl
  have h2 := (hP _ _ hq).lt
  have h3 := hD.2 _ _ hq
  dsimp only at h2 h3
  rcases Nat.lt_or_ge q (B + σ.1) with h | h
  · have hk : q - B < σ.1 := by omega
    have h4 : (wd B b dA σ ++ [(q, x)])[q - B]? = some (B + (q - B), ent B b dA σ (q - B)) := by
      rw [List.getElem?_append_left (by rw [wd_len]; exact hk), wd_get hk]
    have h5 := hD.1 _ _ _ _ h4 hq (by dsimp only; omega)
    omega
  · omega
end ST

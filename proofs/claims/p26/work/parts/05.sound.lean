/-! SOUNDNESS of one step: what the interpreter does, the machine does -/
section S0
variable {B b : Nat} {dA : Nat → ClassId}
theorem vm_cat (v : Value) : (vm B b v).category = v.category := by cases v <;> rfl
theorem stw_vm (r : List Value) : ((r.map (vm B b)).map fun v => v.category).sum = stw r := by
  unfold stw
  rw [List.map_map]
  congr 1
  exact List.map_congr_left (fun v _ => vm_cat v)
theorem lk_mem : ∀ {L : Lc} {i : Nat} {v : Value}, lk L i = some v → (i, v) ∈ L
  | [], _, _, h => by cases h
  | q :: r, i, v, h => by
    unfold lk at h
    by_cases hq : q.1 = i
    · rw [if_pos hq] at h
      cases h
      rw [← hq]
      exact List.mem_cons_self
    · rw [if_neg hq] at h
      exact List.mem_cons_of_mem _ (lk_mem h)
theorem lv_lk {ls : Array Slot} {nL i : Nat} {L : Lc} {v : Value} (h : lv_has ls nL (lvm B b L)) (hk : lk L i = some v) : ls[i]? = some (.val (vm B b v)) :=
  h.2.2 (i, vm B b v) (List.mem_map.mpr ⟨(i, v), lk_mem hk, rfl⟩)
theorem st1_vm (L : Lc) (i : Nat) (v : Value) : (i, vm B b v) :: (lvm B b L).filter (fun q => !(q.1 == i) && !(q.1 + 1 == i && q.2.category == 2)) = lvm B b (st1 L i v) := by
  unfold lvm st1
  rw [List.map_cons, List.filter_map]
  congr 2
  apply List.filter_congr
  intro q _
  show (!(q.1 == i) && !(q.1 + 1 == i && (vm B b q.2).category == 2)) = _
  rw [vm_cat]
theorem st2_vm (L : Lc) (i : Nat) (v : Value) : (i, vm B b v) :: (lvm B b L).filter (fun q => !(q.1 == i) && (!(q.1 == i + 1) && !(q.1 + 1 == i && q.2.category == 2))) = lvm B b (st2 L i v) := by
  unfold lvm st2
  rw [List.map_cons, List.filter_map]
  congr 2
  apply List.filter_congr
  intro q _
  show (!(q.1 == i) && (!(q.1 == i + 1) && !(q.1 + 1 == i && (vm B b q.2).category == 2))) = _
  rw [vm_cat]
theorem wd_get {σ : Mm} {c : Nat} (h : c < σ.1) : (wd B b dA σ)[c]? = some (B + c, ent B b dA σ c) := by
  simp [wd, h]
theorem wd_len (σ : Mm) : (wd B b dA σ).length = σ.1 := by simp [wd]
theorem wd_at {σ : Mm} {k : Nat} {q : Nat × va_E} (h : (wd B b dA σ)[k]? = some q) : k < σ.1 ∧ q = (B + k, ent B b dA σ k) := by
  have hk : k < σ.1 := by
    have := (List.getElem?_eq_some_iff.mp h).1
    rwa [wd_len] at this
  rw [wd_get hk] at h
  exact ⟨hk, (Option.some.inj h).symm⟩
theorem wd_D (σ : Mm) : va_D (fun q => B ≤ q) (wd B b dA σ) := by
  refine ⟨fun i j p q hi hj h => ?_, fun k q hk => ?_⟩
  · rw [(wd_at hi).2, (wd_at hj).2] at h
    dsimp only at h
    omega
  · rw [(wd_at hk).2]
    exact Nat.le_add_right _ _
theorem wd_set {σ σ1 : Mm} {c : Nat} {e : va_E} (hN : σ1.1 = σ.1) (hc : ent B b dA σ1 c = e) (he : ∀ a, a ≠ c → ent B b dA σ1 a = ent B b dA σ a) : (wd B b dA σ).set c (B + c, e) = wd B b dA σ1 := by
  apply List.ext_getElem?
  intro k
  rw [List.getElem?_set]
  by_cases hk : c = k
  · subst hk
    rw [if_pos rfl]
    by_cases h : c < σ.1
    · rw [wd_len, if_pos h, wd_get (by rw [hN]; exact h), hc]
    · rw [wd_len, if_neg h]
      rw [List.getElem?_eq_none (by rw [wd_len, hN]; omega)]
  · rw [if_neg hk]
    by_cases h : k < σ.1
    · rw [wd_get h, wd_get (by rw [hN]; exact h), he k (fun q => hk q.symm)]
    · rw [List.getElem?_eq_none (by rw [wd_len]; omega), List.getElem?_eq_none (by rw [wd_len, hN]; omega)]
theorem wd_push {σ σ1 : Mm} {e : va_E} (hN : σ1.1 = σ.1 + 1) (hc : ent B b dA σ1 σ.1 = e) (he : ∀ a, a < σ.1 → ent B b dA σ1 a = ent B b dA σ a) : wd B b dA σ ++ [(B + σ.1, e)] = wd B b dA σ1 := by
  unfold wd
  rw [hN, List.range_succ, List.map_append, List.map_cons, List.map_nil, hc]
  congr 1
  exact List.map_congr_left (fun a ha => by rw [he a (List.mem_range.mp ha)])
theorem fv_eq {σ σ1 : Mm} {c ci k : Nat} (h1 : σ1.2.1 c k = σ.2.1 c k) (h2 : σ1.2.2.1 c k = σ.2.2.1 c k) : fv σ1 c ci k = fv σ c ci k := by
  unfold fv; rw [h1, h2]
theorem ent_eq {σ σ1 : Mm} {c : Nat} (h1 : σ1.2.1 c = σ.2.1 c) (h2 : σ1.2.2.1 c = σ.2.2.1 c) (h3 : σ1.2.2.2 c = σ.2.2.2 c) : ent B b dA σ1 c = ent B b dA σ c := by
  unfold ent
  rw [h1, h2, h3]
  split <;> first | rfl | (congr 2; exact List.map_congr_left (fun k _ => by rw [fv_eq (congrFun h1 k) (congrFun h2 k)]))
theorem ent_o {σ : Mm} {c ci : Nat} (h : SH c = (0, ci)) : ent B b dA σ c = .inr (ci, (List.range (nf ci)).map (fun k => vm B b (fv σ c ci k))) := by
  unfold ent; rw [h]; rfl
theorem ent_i {σ : Mm} {c t : Nat} (h : (SH c).1 = t) (ht : t = 1 ∨ t = 2 ∨ t = 3) : ent B b dA σ c = .inl (dA t, (SH c).2, .inl (σ.2.1 c)) := by
  have h' : SH c = (t, (SH c).2) := by rw [← h]
  unfold ent
  rw [h']
  rcases ht with rfl | rfl | rfl <;> rfl
theorem ent_d {σ : Mm} {c : Nat} (h : (SH c).1 = 4) : ent B b dA σ c = .inl (dA 4, (SH c).2, .inr (.inr (.inr (.inl (σ.2.2.2 c))))) := by
  have h' : SH c = (4, (SH c).2) := by rw [← h]
  unfold ent
  rw [h']
  rfl
theorem ent_q {σ : Mm} {c : Nat} (h : (SH c).1 = 5) : ent B b dA σ c = .inl (dA 5, (SH c).2, .inr (.inr (.inr (.inr (fun j => (σ.2.2.1 c j).map (B + ·)))))) := by
  have h' : SH c = (5, (SH c).2) := by rw [← h]
  unfold ent
  rw [h']
  rfl
theorem upd_eq (f : Nat → Int32) (k : Nat) (x : Int32) : upd f k x = fun j => if j = k then x else f j := rfl
theorem vm_vrf (o : Option Nat) : vm B b (vrf o) = va_rf (o.map (B + ·)) := by cases o <;> rfl
end S0
theorem NST_form {w : Cond} (h : w ∈ NST) : ∃ a i x hh, w = .methodLinkNest a i x hh := by
  obtain ⟨own, -, h⟩ := List.mem_flatMap.mp h
  obtain ⟨e, -, rfl⟩ := List.mem_map.mp h
  exact ⟨_, _, _, _, rfl⟩
theorem NST_in {own ix kd y1 : Nat} (ho : own < 8) (h : lnk own ix = some (kd, y1)) (hk : kd = 3 ∨ kd = 4) : Cond.methodLinkNest (CN own) ix (mnm y1) RX3 ∈ NST := by
  refine List.mem_flatMap.mpr ⟨own, List.mem_range.mpr ho, List.mem_map.mpr ⟨(ix, kd, y1), List.mem_filter.mpr ⟨find_in h, ?_⟩, rfl⟩⟩
  rcases hk with rfl | rfl <;> rfl
theorem KK.warm {dC : Nat → ClassId} {dI : Nat → Nat → Nat} {dA : Nat → ClassId} {s U : State} (hW : s.WarmedH U.vm) (h : KK dC dI dA s) : KK dC dI dA U := by
  refine ⟨va_K.moved hW.alike h.1, va_AO.moved hW.alike h.2.1, fun w hw => ?_⟩
  obtain ⟨a, i, x, hh, rfl⟩ := NST_form hw
  exact va_Nw.warmM hW (h.2.2 _ hw)
theorem KK.same {dC : Nat → ClassId} {dI : Nat → Nat → Nat} {dA : Nat → ClassId} {u U : State} (hv : u.vm = U.vm) (h : KK dC dI dA u) : KK dC dI dA U := by
  refine ⟨va_K.moved (by rw [hv]; exact Vm.Alike.refl _) h.1, va_AO.moved (by rw [hv]; exact Vm.Alike.refl _) h.2.1, fun w hw => ?_⟩
  obtain ⟨a, i, x, hh, rfl⟩ := NST_form hw
  exact va_Nw.same rfl hv (h.2.2 _ hw)
/-- the world of a state, as a method's start and end say it -/
def Wo (B b : Nat) (dC : Nat → ClassId) (dI : Nat → Nat → Nat) (dA : Nat → ClassId) (σ : Mm) (U : State) : Prop := U.heap.size = B + σ.1 ∧ va_P (dC, dI) vwCl (wd B b dA σ) U.heap ∧ KK dC dI dA U
/-- the script, where a method may read it -/
def scOk (B b : Nat) (scr : Option (Nat × (Nat → Int32))) (U : State) : Prop := ∀ len xs, scr = some (len, xs) → va_X b len xs U U.heap ∧ b < U.heap.size ∧ b < B
def PcG (B b : Nat) (dC : Nat → ClassId) (dI : Nat → Nat → Nat) (dA : Nat → ClassId) (scr : Option (Nat × (Nat → Int32))) (as : List Value) (σ : Mm) : Array Value → State → Prop := fun v U => v = (as.map (vm B b)).toArray ∧ Wo B b dC dI dA σ U ∧ scOk B b scr U
def QcG (B b : Nat) (dC : Nat → ClassId) (dI : Nat → Nat → Nat) (dA : Nat → ClassId) (r : Option Value) (σ : Mm) : Array Value → State → Outcome → State → Prop := fun _ st o t => o = .returned (r.map (vm B b)) ∧ t.heap.size = B + σ.1 ∧ va_P (dC, dI) vwCl (wd B b dA σ) t.heap ∧ ∀ q : Nat, q < B → t.heap[q]? = st.heap[q]?
/-- the words of a method: its code, and all words that pass a call -/
def wsG (y : Nat) : List Cond := .code (mnm y) (mcd y) (mml y) (mrt y) :: WS
/-- THE CONTRACT of a call of the interpreter -/
def CT (l : Launch) (B b : Nat) (dC : Nat → ClassId) (dI : Nat → Nat → Nat) (dA : Nat → ClassId) (scr : Option (Nat × (Nat → Int32))) (d y : Nat) (as : List Value) (σ : Mm) (r : Option Value) (σ1 : Mm) : Prop :=
  Met l (mnm y) (wsG y) ({ frames := d, cells := σ1.1 - σ.1, slots := SZ σ1.1 - SZ σ.1, locals := 35 * d }) (PcG B b dC dI dA scr as σ) (QcG B b dC dI dA r σ1) (σ1.1 - σ.1) (SZ σ1.1 - SZ σ.1) (fun q => B ≤ q)
theorem code_good {y : Nat} : goodWord (Cond.code (mnm y) (mcd y) (mml y) (mrt y)) = true := by first | rfl | simp [goodWord, Cond.onTables, Cond.keeps, Cond.steady]
theorem wsG_in {y : Nat} (hy : y < yLAW) : GoodIn WS (wsG y) := by
  intro w hw
  rcases List.mem_cons.mp hw with rfl | h
  · exact ⟨mem_WS (mt_word hy) code_good, good_of_word code_good⟩
  · exact ⟨h, good_of_word (WS_good w h)⟩
theorem PcG_blind {B b : Nat} {dC : Nat → ClassId} {dI : Nat → Nat → Nat} {dA : Nat → ClassId} {scr : Option (Nat × (Nat → Int32))} {as : List Value} {σ : Mm} : FrameBlind (PcG B b dC dI dA scr as σ) := fun a U g mk h => ⟨h.1, ⟨h.2.1.1, h.2.1.2.1, KK.same (u := U) (U := U.calling g mk a) rfl h.2.1.2.2⟩, fun len xs e => ⟨va_X.moved (u := U) (U := U.calling g mk a) (Vm.Alike.refl _) (h.2.2 len xs e).1, (h.2.2 len xs e).2⟩⟩
theorem SZ_succ (n : Nat) : SZ (n + 1) = SZ n + szc n := by
  unfold SZ; rw [List.range_succ, List.map_append, List.sum_append]; simp
theorem SZ_mono {a b : Nat} (h : a ≤ b) : SZ a ≤ SZ b := by
  induction b with
  | zero => rw [Nat.le_zero.mp h]; exact Nat.le_refl _
  | succ n ih =>
    rcases Nat.lt_or_ge n a with q | q
    · rw [show a = n + 1 by omega]; exact Nat.le_refl _
    · rw [SZ_succ]; exact Nat.le_trans (ih q) (Nat.le_add_right _ _)

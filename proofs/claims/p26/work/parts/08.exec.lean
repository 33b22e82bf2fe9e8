/-! SOUNDNESS: a run, a call -/
section EX
variable {p : Program} {l : Launch} {e : Env} {R : Room} {s : State} {m : MethodId} {args : Array Value} {below : List Frame} {meth : Method} {c : Code} {Q : State → Prop}
variable {B b : Nat} {dC : Nat → ClassId} {dI : Nat → Nat → Nat} {dA : Nat → ClassId} {N0 dd NT y : Nat} {scr : Option (Nat × (Nat → Int32))} {call : Cal} {Q1 : Option Value → Mm → Prop}
theorem run_snd (hF : FX p l R s m args meth c B b dC dI dA N0 dd NT y scr call)
    (hQ : ∀ (pc : Nat) (σ : Mm) (H : Heap) (locs : List Loc) (cells slots : Nat) (ls : Array Slot) (v : Option Value), Q1 v σ → RetOk y pc v → HF B b dC dI dA N0 s σ H locs cells slots → W p l e R s m args below meth c H locs cells slots Q (F0 m pc ls (v.toList.map (vm B b)))) :
    ∀ (n pc : Nat) (L : Lc) (st : List Value) (σ : Mm) (H : Heap) (locs : List Loc) (cells slots : Nat) (ls : Array Slot), runP dd NT call scr y Q1 n pc L st σ → HF B b dC dI dA N0 s σ H locs cells slots → lv_has ls (mml y) (lvm B b L) → W p l e R s m args below meth c H locs cells slots Q (F0 m pc ls (st.map (vm B b)))
  | 0, _, _, _, _, _, _, _, _, _, h, _, _ => h.elim
  | n + 1, _, _, _, _, _, _, _, _, _, h, hH, hl => step_snd hF (run_snd hF hQ n) hQ h hH hl
theorem lv_args_vm : ∀ (i : Nat) (as : List Value), lv_args i (as.map (vm B b)) = lvm B b (lv_args i as)
  | _, [] => rfl
  | i, v :: vs => by
    show (i, vm B b v) :: lv_args (if (vm B b v).category = 2 then i + 2 else i + 1) (vs.map (vm B b)) = (i, vm B b v) :: lvm B b (lv_args (if v.category = 2 then i + 2 else i + 1) vs)
    rw [vm_cat, lv_args_vm]
theorem lg_len : ∀ (vs : List Value), (lg_sl vs).length = stw vs
  | [] => rfl
  | v :: vs => by
    have h := lg_len vs
    unfold lg_sl stw at h ⊢
    rw [List.flatMap_cons, List.length_append, List.map_cons, List.sum_cons, h]
    congr 1
    cases v <;> rfl
theorem exec_met : ∀ (d : Nat) (y : Nat) (as : List Value) (σ : Mm) (r : Option Value) (σ1 : Mm), ExecS scr d y as σ r σ1 → σ.1 ≤ σ1.1 ∧ y < yLAW ∧ ∃ d1, d1 + 1 ≤ d ∧ CT l B b dC dI dA scr d1 y as σ r σ1
  | 0, _, _, _, _, _, h => h.elim
  | d + 1, y, as, σ, r, σ1, ⟨hm, hy, hw, n, hrun⟩ => by
    refine ⟨hm, hy, d, Nat.le_refl _, ?_⟩
    have hyN : y < NM := Nat.lt_trans hy (by decide)
    obtain ⟨f1, f2, f3, f4, f5⟩ := mt_facts y hyN
    refine va_MetF (cc := mcd y) (maxL := mml y) (ret := mrt y) (ws' := WS) f2 rfl ?_
    intro p e s m args below meth c s₁ BB hml hv
    obtain ⟨rfl, ⟨hsz, hP, hK⟩, hsc⟩ := hv
    have hts : ∀ w ∈ wsG y, w.before (as.map (vm B b)).toArray s = true := atoms_spec (ws := wsG y) BB.pre
    have hown : s.vm.findClass (CN (mown y)) = some m.cls := by rw [← f1]; exact findClass_of_methodNamed BB.named
    have hl := lv_entry (as.map (vm B b)) (n := mml y) (by rw [lg_len]; unfold stw; rw [stw_vm]; exact hw)
    rw [lg_entry_eq]
    generalize (lg_sl (as.map (vm B b)) ++ List.replicate (mml y - (lg_sl (as.map (vm B b))).length) Slot.unset).toArray = ls at hl ⊢
    rw [lv_args_vm] at hl
    have hSZ := SZ_mono hm
    have hF : FX p l ({ frames := d, cells := σ1.1 - σ.1, slots := SZ σ1.1 - SZ σ.1, locals := 35 * d } : Room) s m (as.map (vm B b)).toArray meth c B b dC dI dA σ.1 d σ1.1 y scr (ExecS scr d) :=
      ⟨BB.exec, BB.bytes, hml, hown, fun h => (name_of_methodNamed BB.named BB.method).1.trans h, hyN, fun w hw => hts w (List.mem_cons_of_mem _ hw), Nat.le_refl _, Nat.le_refl _, by show σ1.1 ≤ σ.1 + (σ1.1 - σ.1); omega, by show SZ σ1.1 ≤ SZ σ.1 + (SZ σ1.1 - SZ σ.1); omega, hK, hsz, hsc, fun y1 as1 σ2 v σ3 h => exec_met d y1 as1 σ2 v σ3 h⟩
    have hH : HF B b dC dI dA σ.1 s σ s.heap [] 0 0 := ⟨hP, va_S.rf, Nat.zero_add _, Nat.zero_add _⟩
    refine run_snd hF ?_ n 0 (lv_args 0 as) [] σ s.heap [] 0 0 ls hrun hH hl
    rintro pc σ2 H locs cells slots ls2 v ⟨rfl, rfl⟩ hret hH2
    refine W_size hsz hH2 (fun hsz2 => ?_)
    obtain ⟨hP2, hS2, hc2, hs2⟩ := hH2
    have e1 : σ2.1 - σ.1 = cells := by omega
    have e2 : SZ σ2.1 - SZ σ.1 = slots := by omega
    rw [e1, e2]
    have hq : ∀ t : State, t.heap = H → s.WarmedH t.vm → QcG B b dC dI dA v σ2 (as.map (vm B b)).toArray s (.returned (v.map (vm B b))) t := fun t ht _ => ⟨rfl, by rw [ht]; exact hsz2, by rw [ht]; exact hP2, fun q hq => by rw [ht]; exact hS2.2.1 q (by omega) (Nat.not_le.mpr hq)⟩
    match v, hret, hq with
    | none, hret, hq => exact W.vret BB.exec BB.bytes (BB.returns.trans hret.2) hq hS2.2.2 hret.1 BB.notSynchronized
    | some (.int x), hret, hq =>
      rcases hret.2 with hi | ⟨hb, h01⟩
      · exact W.iret BB.exec BB.bytes (BB.returns.trans hi) hq hS2.2.2 hret.1 BB.notSynchronized
      · exact W.zret (ty := .boolean) BB.exec BB.bytes (BB.returns.trans hb) (by rcases h01 with rfl | rfl <;> rfl) hq hS2.2.2 hret.1 BB.notSynchronized
    | some (.double x), hret, hq => exact W.dret BB.exec BB.bytes (BB.returns.trans hret.2) hq hS2.2.2 hret.1 BB.notSynchronized
    | some (.long x), hret, hq => exact hret.elim
    | some (.float x), hret, hq => exact hret.elim
    | some .null, hret, hq => exact hret.elim
    | some (.ref x), hret, hq => exact hret.elim
    | some (.retAddr x), hret, hq => exact hret.elim
end EX

/-! THE CLAIM OUT OF ONE WALK OF THE LAW'S BODY. Your part is whole_start (and what it stands on); all else here is the same for every law, but numbers. -/
def R_law : String := "DrawerCabinetLaw"
def lw_P (b : Addr) (xs : List Int32) (args : Array Value) (s : State) : Prop := args = #[.ref b] ∧ s.IntsAt b xs ∧ xs.length ≤ 260 ∧ (Jvm.Cond.and given_1 narrow_1).before args s = true
/-- what a walk over the start with the record d0 says of its end, said of the start itself -/
theorem lw_closed {s t : State} {o : Outcome} {d0 : Drawn} {L : List Loc} {k n : Nat} (hd0 : s.drawn.sameBut d0 lw_cs) (hv : ∃ v, o = .returned v) (hW : (s.setDrawn d0).WarmedH t.vm) (hs : (s.setDrawn d0).sameButNew ({ t with vm := s.vm } : State) L k n) : State.butDraws s t lw_cs (fun t1 => Framed s o t1 L k n) := by
  have h2 : t.drawn = d0 := congrArg State.drawn hs.1
  refine ⟨⟨hv, hW, State.sameButNew.setDrawn hs s.drawn⟩, ?_, by decide⟩
  rw [h2]
  exact hd0
def lw_Q (_ : Array Value) (s : State) (o : Outcome) (t : State) : Prop := o = .returned (some (.int 1)) ∧ State.butDraws s t lw_cs (fun t1 => Framed s o t1 [] 600000 7302250)
def lw_Z (below : List Frame) (a : Array Value) (s : State) : State → Prop := fun t => ∃ o, t.status = .running ∧ Ended t below o ∧ lw_Q a s o t
/-- the law's own end, with 1 on the stack, nothing written that was there before, its room as the claim has it; d0: the record of draws at this point (at the entry s.drawn: begin with 'refine W.base ?_' and 'have hd0 := Drawn.sameBut.refl s.drawn lw_cs') -/
theorem lw_ret {p : Program} {l : Launch} {e : Env} {s : State} {m : MethodId} {below : List Frame} {meth : Method} {c : Code} {b : Nat} {d0 : Drawn} (hd0 : s.drawn.sameBut d0 lw_cs) (hx : p.tables.exec = Jvm.exec) (hb : c.code = code) (hr : meth.sig.returnType = ret) (hlocks : meth.locks = false) {pc : Nat} {H : Heap} {ls : Array Slot} (hdg : decode code pc = .ok (.ireturn, 1)) : W p l e room_1 (s.setDrawn d0) m #[Value.ref b] below meth c H [] 600000 7302250 (lw_Z below #[Value.ref b] s) (F0 m pc ls [.int 1]) := by
  intro T hT X
  obtain ⟨fs, hret, hrun, hended, hW, hframe⟩ := X.leave (v := some (.int 1)) (hlocks := hlocks) (fun h => by rw [hr] at h; cases h)
  have hmeth' : T.vm.method? m = some meth := X.method'
  refine ⟨T.setFrames fs, ?_, .returned (some (.int 1)), hrun, hended, rfl, lw_closed hd0 ⟨_, rfl⟩ hW hframe⟩
  jvm_step X.here [X.here.top, hx, hb, hdg, hmeth', hr, ret, narrow_b1]
  (try refine ⟨rfl, ?_⟩); (try refine ⟨rfl, ?_⟩)
  first | (intro acts; rw [hret _ acts rfl rfl rfl]) | rw [hret _ _ rfl rfl rfl]
  exact Steps.refl _
/-- what holds at the law's entry: the machine, the code, the tables' words (any of lw_tbl by 'hts w (by decide +kernel)'), the script of L ints xs at the cell b, what the Statement gives of the start (any of its parts by flat_of_before) -/
def lw_At (p : Program) (s : State) (m : MethodId) (meth : Method) (c : Code) (b L : Nat) (xs : Nat → Int32) : Prop :=
  p.tables.exec = Jvm.exec ∧ c.code = code ∧ meth.sig.returnType = ret ∧ c.maxLocals = 6 ∧ s.vm.findClass R_law = some m.cls ∧ (∀ w ∈ lw_tbl, w.before #[Value.ref b] s = true) ∧ va_X b L xs s s.heap ∧ b < s.heap.size ∧ meth.locks = false ∧ (Jvm.Cond.and given_1 narrow_1).before #[Value.ref b] s = true
/-- the memory at the law's entry: no cell yet -/
def σ00 : Mm := (0, fun _ _ => 0, fun _ _ => none, fun _ _ => 0)
theorem arr_known {s : State} {args : Array Value} {ty : FieldType} (hn : ∀ q, ty ≠ .object q) (h : (Cond.arrayClass ty).before args s = true) : ∃ cA, ArrOfT s cA ty ∧ va_RA s cA ty := by
  obtain ⟨cA, kA, comp, h1, h2, h3⟩ := Cond.arrayClass_spec h
  refine ⟨cA, fun n z => ⟨fun k h => (by cases h), kA, h2, comp, h3⟩, ?_⟩
  cases ty <;> first | exact h1 | exact absurd rfl (hn _)
theorem over_known {s : State} {args : Array Value} {C : String} (h : (Cond.arrayOver (.object C)).before args s = true) : ∃ cA, ArrOfT s cA (.object C) ∧ va_RA s cA (.object C) := by
  obtain ⟨comp, cA, kA, h1, -, h2, h3, h4⟩ := Cond.arrayOver_spec h
  exact ⟨cA, fun n z => ⟨fun k h => (by cases h), kA, h2, comp, h3⟩, kA, comp, h2, h3, h1, h4⟩
set_option maxHeartbeats 4000000 in
set_option maxRecDepth 100000 in
/-- THE LAW out of a run of the interpreter -/
theorem law_of {p : Program} {e : Env} {s : State} {m : MethodId} {below : List Frame} {meth : Method} {c : Code} (l : Launch) {b L : Nat} {xs : Nat → Int32} (C0 : lw_At p s m meth c b L xs)
    (hrun : ∃ n, runP 9 73 (ExecS (some (L, xs)) 9) (some (L, xs)) yLAW (fun v σ => v = some (.int 1) ∧ σ.1 ≤ 73) n 0 [(0, .retAddr 0)] [] σ00) : W p l e room_1 s m #[Value.ref b] below meth c s.heap [] 0 0 (lw_Z below #[Value.ref b] s) (entryFrame m ([Value.ref b] : List Value).toArray 6) := by
  obtain ⟨hx, hb, hr, hml, hown, hts, hX, hbl, hlocks, hgv⟩ := id C0
  obtain ⟨n, hrun⟩ := hrun
  obtain ⟨c0, i0, k0⟩ := u_known (C := RX0) (T := TX0) (N := 8) (n := 8) hts inF_0 (hts _ (pN_3 _ (by decide +kernel)))
  obtain ⟨c1, i1, k1⟩ := u_known (C := RX1) (T := TX1) (N := 3) (n := 3) hts inF_1 (hts _ (pN_3 _ (by decide +kernel)))
  obtain ⟨c2, i2, k2⟩ := u_known (C := RX2) (T := TX2) (N := 15) (n := 15) hts inF_2 (hts _ (pN_3 _ (by decide +kernel)))
  obtain ⟨c3, i3, k3⟩ := u_known (C := RX3) (T := TX3) (N := 8) (n := 8) hts inF_3 (hts _ (pN_7 _ (by decide +kernel)))
  obtain ⟨a1, f1, g1⟩ := arr_known (ty := .int) (fun q h => by cases h) (hts _ (in_X (by decide)))
  obtain ⟨a2, f2, g2⟩ := arr_known (ty := .char) (fun q h => by cases h) (hts _ (in_X (by decide)))
  obtain ⟨a5, f5, g5⟩ := over_known (C := RX2) (hts _ (in_X (by decide)))
  have hKK : KK (fun k => match k with | 0 => c0 | 1 => c1 | 2 => c2 | _ => c3) (fun k => match k with | 0 => i0 | 1 => i1 | 2 => i2 | _ => i3) (fun k => match k with | 1 => a1 | 2 => a2 | _ => a5) s := by
    refine ⟨⟨fun k q hq => ?_, fun k q hq => ?_⟩, va_AO.of (hts _ (in_X (by decide))), fun w hw => ?_⟩
    · match k, hq with
      | 0, hq => cases hq; exact k0
      | 1, hq => cases hq; exact k1
      | 2, hq => cases hq; exact k2
      | 3, hq => cases hq; exact k3
      | k + 4, hq => simp [vwCl] at hq
    · match k, hq with
      | 0, hq => cases hq; exact ⟨f1, g1⟩
      | 1, hq => cases hq; exact ⟨f2, g2⟩
      | 2, hq => cases hq; exact ⟨f5, g5⟩
      | k + 3, hq => simp [TYS] at hq
    · have hw2 := hw
      obtain ⟨own, ho, hw⟩ := List.mem_flatMap.mp hw
      obtain ⟨q, hq, rfl⟩ := List.mem_map.mp hw
      obtain ⟨hq1, hq2⟩ := List.mem_filter.mp hq
      refine va_Nw.of rfl (hts _ (lk_in own q hq1 _ ?_))
      have h3 : q.2.1 = 3 ∨ q.2.1 = 4 := by simpa using hq2
      unfold wLink
      rcases h3 with h3 | h3 <;> rw [h3] <;> exact List.mem_cons_self
  have hl := lv_entry ([.ref b]) (n := 6) (Nat.le_of_ble_eq_true rfl)
  rw [lg_entry_eq]
  generalize (lg_sl ([.ref b]) ++ List.replicate (6 - (lg_sl ([.ref b])).length) Slot.unset).toArray = ls at hl ⊢
  have hl : lv_has ls (mml yLAW) (lvm s.heap.size b [(0, .retAddr 0)]) := hl
  have hF : FX p l room_1 s m #[Value.ref b] meth c s.heap.size b _ _ _ 0 9 73 yLAW (some (L, xs)) (ExecS (some (L, xs)) 9) :=
    ⟨hx, hb, hml, hown, fun h => absurd h (by decide), by decide, fun w hw => hts w (List.mem_filter.mp hw).1, by decide, by decide, by decide, by decide +kernel, hKK, rfl, fun len ys h => by cases h; exact ⟨hX, hbl, hbl⟩, fun y1 as1 σ2 v σ3 h => exec_met 9 y1 as1 σ2 v σ3 h⟩
  refine run_snd hF ?_ n 0 [(0, .retAddr 0)] [] σ00 s.heap [] 0 0 ls hrun ⟨fun k q h => ?_, va_S.rf, rfl, rfl⟩ hl
  · rintro pc σ2 H locs cells slots ls2 v ⟨rfl, h73⟩ hret hH2
    obtain ⟨hP2, hS2, hc2, hs2⟩ := hH2
    have h1 := SZ_mono h73
    have h2 : SZ 73 ≤ 7302250 := by decide +kernel
    refine va_forget hS2.2.2 (W.widen (k := 600000) (n := 7302250) (by omega) (by omega) (W.base ?_))
    exact lw_ret (Drawn.sameBut.refl s.drawn lw_cs) hx hb hr hlocks hret.1
  · simp [wd, σ00] at h

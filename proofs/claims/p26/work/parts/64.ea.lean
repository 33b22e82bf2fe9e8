/-! the calls over the abstract state, and runs of the law's own methods over it -/
theorem q20 {c : Nat} {A : Ab} (hc : c ≤ 512) (hw : wfA c A) : A.1.2 < 2 ^ 20 := by have := hw.1.2; omega
section CN
variable {e c : Nat} {v w u x : Int32} {M : Im} {h : Hm} {D : Dm} {A : Ab}
theorem CN_build (hw : wfA c A) (hI : IX M h A) : CI (e + 8) nX3_build [.ref 0, .int v, .int w, .int u, .int x] M h D (fun y M1 h1 _ => ∃ A1, opBuild A v w u x = (y, A1) ∧ IX M1 h1 A1 ∧ wfA (c + 1) A1) := by
  obtain ⟨n, h1⟩ := hw.1.1
  exact X_build (d := e + 3) h1 hI (fun M1 h1 i f => ⟨_, rfl, i, K_build hw⟩)
theorem CN_setBottoms (hw : wfA c A) (hI : IX M h A) : CI (e + 8) nX3_setBottoms [.ref 0, .int v, .int w] M h D (fun y M1 h1 _ => ∃ A1, opSetB A v w = (y, A1) ∧ IX M1 h1 A1 ∧ wfA (c + 1) A1) := by
  obtain ⟨n, h1⟩ := hw.1.1
  exact X_setB (d := e + 3) h1 hI (fun M1 h1 i f => ⟨_, rfl, i, K_setB hw⟩)
theorem CN_lay (hw : wfA c A) (hI : IX M h A) : CI (e + 8) nX3_lay [.ref 0, .int v, .int w, .int u] M h D (fun y M1 h1 _ => ∃ A1, opLay A v w u = (y, A1) ∧ IX M1 h1 A1 ∧ wfA (c + 1) A1) := by
  obtain ⟨n, h1⟩ := hw.1.1
  exact X_lay (d := e + 3) h1 hI (fun M1 h1 i f => ⟨_, rfl, i, K_lay hw⟩)
theorem CN_begin (hw : wfA c A) (hI : IX M h A) : CI (e + 8) nX3_begin [.ref 0] M h D (fun y M1 h1 _ => ∃ A1, opBegin A = (y, A1) ∧ IX M1 h1 A1 ∧ wfA (c + 1) A1) := by
  obtain ⟨n, h1⟩ := hw.1.1
  exact X_begin (d := e + 3) h1 hI (fun M1 h1 i f => ⟨_, rfl, i, K_begin hw⟩)
theorem CN_giveUp (hw : wfA c A) (hI : IX M h A) : CI (e + 8) nX3_giveUp [.ref 0] M h D (fun y M1 h1 _ => ∃ A1, opGiveUp A = (y, A1) ∧ IX M1 h1 A1 ∧ wfA (c + 1) A1) := by
  obtain ⟨n, h1⟩ := hw.1.1
  exact X_giveUp (d := e + 3) h1 hI (fun M1 h1 i f => ⟨_, rfl, i, K_giveUp hw⟩)
theorem CN_open (hw : wfA c A) (hI : IX M h A) : CI (e + 8) nX3_open [.ref 0, .int v] M h D (fun y M1 h1 _ => ∃ A1, opOpen A v = (y, A1) ∧ IX M1 h1 A1 ∧ wfA (c + 1) A1) := by
  obtain ⟨n, h1⟩ := hw.1.1
  exact X_open (d := e + 3) h1 hI (fun M1 h1 i f => ⟨_, rfl, i, K_open hw⟩)
theorem CN_close (hw : wfA c A) (hI : IX M h A) : CI (e + 8) nX3_close [.ref 0, .int v] M h D (fun y M1 h1 _ => ∃ A1, opClose A v = (y, A1) ∧ IX M1 h1 A1 ∧ wfA (c + 1) A1) := by
  obtain ⟨n, h1⟩ := hw.1.1
  exact X_close (d := e + 3) h1 hI (fun M1 h1 i f => ⟨_, rfl, i, K_close hw⟩)
theorem CN_lift (hw : wfA c A) (hI : IX M h A) : CI (e + 8) nX3_lift [.ref 0, .int v] M h D (fun y M1 h1 _ => ∃ A1, opLift A v = (y, A1) ∧ IX M1 h1 A1 ∧ wfA (c + 1) A1) := by
  obtain ⟨n, h1⟩ := hw.1.1
  exact X_lift (d := e + 3) h1 hI (fun M1 h1 i f => ⟨_, rfl, i, K_lift hw⟩)
theorem CN_take (hw : wfA c A) (hI : IX M h A) : CI (e + 8) nX3_take [.ref 0, .int v] M h D (fun y M1 h1 _ => ∃ A1, opTake A v = (y, A1) ∧ IX M1 h1 A1 ∧ wfA (c + 1) A1) := by
  obtain ⟨n, h1⟩ := hw.1.1
  exact X_take (d := e + 3) h1 hI (fun M1 h1 i f => ⟨_, rfl, i, K_take hw⟩)
theorem CN_seal (hw : wfA c A) (hI : IX M h A) : CI (e + 8) nX3_seal [.ref 0, .int v] M h D (fun y M1 h1 _ => ∃ A1, opSeal A v = (y, A1) ∧ IX M1 h1 A1 ∧ wfA (c + 1) A1) := by
  obtain ⟨n, h1⟩ := hw.1.1
  exact X_seal (d := e + 3) h1 hI (fun M1 h1 i f => ⟨_, rfl, i, K_seal hw⟩)
theorem CN_undo (hw : wfA c A) (hI : IX M h A) : CI (e + 8) nX3_undo [.ref 0] M h D (fun y M1 h1 _ => ∃ A1, opUndo A = (y, A1) ∧ IX M1 h1 A1 ∧ wfA (c + 1) A1) :=
  X_undo (d := e + 3) (fun i hi => (hw.2.2.1 i hi).1.elim (fun _ z => z.a1)) hI (fun M1 h1 i f => ⟨_, rfl, i, K_undo hw⟩)
theorem CN_drawer (hw : wfA c A) (hI : IX M h A) : CI (e + 8) nX3_drawer [.ref 0, .int v, .int w] M h D (fun y M1 h1 _ => y = opDrawer A.1.1 v w ∧ IX M1 h1 A) := by
  obtain ⟨n, h1⟩ := hw.1.1
  exact X_drawer (d := e + 3) h1 hI ⟨rfl, hI⟩
theorem CN_thing (hw : wfA c A) (hI : IX M h A) : CI (e + 8) nX3_thing [.ref 0, .int v, .int w] M h D (fun y M1 h1 _ => y = opThing A.1.1 v w ∧ IX M1 h1 A) := by
  obtain ⟨n, h1⟩ := hw.1.1
  exact X_thing (d := e + 3) h1 hI ⟨rfl, hI⟩
theorem CN_needs (hw : wfA c A) (hI : IX M h A) : CI (e + 8) nX3_needs [.ref 0, .int v, .int w] M h D (fun y M1 h1 _ => y = opNeeds (nOf A.1.1) A.1.1 v w ∧ IX M1 h1 A) := by
  obtain ⟨n, h1⟩ := hw.1.1
  rw [h1.nOf]
  exact X_needs (d := e + 1) h1 hI (fun M1 i f => ⟨rfl, i⟩)
theorem CN_hint (hw : wfA c A) (hI : IX M h A) : CI (e + 8) nX3_hint [.ref 0, .int v] M h D (fun y M1 h1 _ => y = opHint (nOf A.1.1) A.1.1 v ∧ IX M1 h1 A) := by
  obtain ⟨n, h1⟩ := hw.1.1
  rw [h1.nOf]
  exact X_hint (d := e + 1) h1 hI (fun M1 i f => ⟨rfl, i⟩)
theorem CN_count (hw : wfA c A) (hI : IX M h A) : CI (e + 8) nX3_count [.ref 0, .int w] M h D (fun y M1 h1 _ => y = opCount (nOf A.1.1) A w ∧ IX M1 h1 A) := by
  obtain ⟨n, h1⟩ := hw.1.1
  rw [h1.nOf]
  exact X_count (d := e + 1) h1 hI (fun M1 i f => ⟨rfl, i⟩)
theorem CN_minutes (hc : c ≤ 512) (hw : wfA c A) (hI : IX M h A) : CD (e + 8) nX3_minutes [.ref 0] M h D (fun y M1 h1 _ => y = mnd A.1.1 A.1.2 ∧ IX M1 h1 A) := by
  obtain ⟨n, h1⟩ := hw.1.1
  exact tX_minutes (d := e + 7) hI.1 h1.a1 (q20 hc hw) ⟨rfl, hI⟩
theorem CN_minutesBits (hc : c ≤ 512) (hw : wfA c A) (hI : IX M h A) : CI (e + 8) nX3_minutesBits [.ref 0] M h D (fun y M1 h1 _ => y = mnb A.1.1 A.1.2 ∧ IX M1 h1 A) := by
  obtain ⟨n, h1⟩ := hw.1.1
  exact tX_minutesBits (d := e + 6) hI.1 h1.a1 (q20 hc hw) ⟨rfl, hI⟩
end CN
/-- a run of one of the law's methods from a point, a call of it, over the abstract state -/
def EA (scr : Option (Nat × (Nat → Int32))) (d y pc : Nat) (L : Lc) (st : List Value) (A : Ab) (Q : Int32 → Ab → Prop) : Prop := ∀ M h D, IX M h A → EvIS scr d y pc L st M h D (fun x M1 h1 _ => ∃ A1, Q x A1 ∧ IX M1 h1 A1)
def CA (scr : Option (Nat × (Nat → Int32))) (d y : Nat) (as : List Value) (A : Ab) (Q : Int32 → Ab → Prop) : Prop := ∀ M h D, IX M h A → CIS scr d y as M h D (fun x M1 h1 _ => ∃ A1, Q x A1 ∧ IX M1 h1 A1)
theorem ca_of {scr : Option (Nat × (Nat → Int32))} {d y : Nat} {as : List Value} {A : Ab} {Q : Int32 → Ab → Prop} (hy : Nat.ble (y + 1) yLAW = true) (hw : Nat.ble (stw as) (mml y) = true) (k : EA scr d y 0 (lv_args 0 as) [] A Q) : CA scr (d + 1) y as A Q := fun M h D hI => cis_of hy hw (k M h D hI)
theorem ca_w {scr : Option (Nat × (Nat → Int32))} {d y : Nat} {as : List Value} {A : Ab} {Q Q1 : Int32 → Ab → Prop} (hc : CA scr d y as A Q) (k : ∀ x A1, Q x A1 → Q1 x A1) : CA scr d y as A Q1 := fun M h D hI => cis_w (hc M h D hI) (fun x M1 h1 D1 ⟨A1, q, i⟩ => ⟨A1, k x A1 q, i⟩)
/-- the script's cell, and a number's bits, as the law reads them -/
def cellV (Lb : Nat) (xs : Nat → Int32) (v : Int32) : Int32 := (if Int32.ofNat Lb ≤ v then 15485959 * v + 1309 else xs v.toNatClampNeg) &&& 2147483647
def bitsV (v : Int32) : Int32 := fsum (fun k => (v >>> (nI k &&& 31)) &&& 1) 16

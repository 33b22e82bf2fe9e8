/-! RULES of runs, an instruction each -/
section ER
variable {d y pc pc1 : Nat} {scr : Option (Nat × (Nat → Int32))} {L : Lc} {st : List Value} {M : Im} {h : Hm} {D : Dm} {as r : List Value} {Q : Option Value → Im → Hm → Dm → Prop}
theorem ev_step {L1 : Lc} {st1 : List Value} {M1 : Im} {h1 : Hm} {D1 : Dm} (hs : ∀ (K : Kn) (Q1 : Option Value → Mm → Prop), K pc1 L1 st1 (rs M1 h1 D1) → stepP d 73 (ExecS scr d) scr y K Q1 pc L st (rs M h D)) (k : Ev d scr y pc1 L1 st1 M1 h1 D1 Q) : Ev d scr y pc L st M h D Q := by
  obtain ⟨v, M2, h2, D2, hq, n, hr⟩ := k
  exact ⟨v, M2, h2, D2, hq, n + 1, hs _ _ hr⟩
theorem ev_ret {v : Option Value} (hs : ∀ (K : Kn) (Q1 : Option Value → Mm → Prop), Q1 v (rs M h D) → stepP d 73 (ExecS scr d) scr y K Q1 pc L st (rs M h D)) (hq : Q v M h D) : Ev d scr y pc L st M h D Q :=
  ⟨v, M, h, D, hq, 1, hs _ _ ⟨rfl, rfl⟩⟩
theorem ev_aload_n {n : Fin 4} {v : Value} (hv : lk L n = some v) (hr : isR v = true) (ht : TB y pc = some (.aload_n n, 1)) (e : pc + 1 = pc1) (k : Ev d scr y pc1 L (v :: r) M h D Q) : Ev d scr y pc L (r) M h D Q := by
  subst e
  exact ev_step (fun K Q1 hk => by unfold stepP; rw [ht]; exact ⟨rfl, v, hv, hr, hk⟩) k
theorem ev_iload_n {n : Fin 4} {x : Int32} (hv : lk L n = some (.int x)) (ht : TB y pc = some (.iload_n n, 1)) (e : pc + 1 = pc1) (k : Ev d scr y pc1 L (.int x :: r) M h D Q) : Ev d scr y pc L (r) M h D Q := by
  subst e
  exact ev_step (fun K Q1 hk => by unfold stepP; rw [ht]; exact ⟨rfl, x, hv, hk⟩) k
theorem ev_fload_n {n : Fin 4} {x : UInt32} (hv : lk L n = some (.float x)) (ht : TB y pc = some (.fload_n n, 1)) (e : pc + 1 = pc1) (k : Ev d scr y pc1 L (.float x :: r) M h D Q) : Ev d scr y pc L (r) M h D Q := by
  subst e
  exact ev_step (fun K Q1 hk => by unfold stepP; rw [ht]; exact ⟨rfl, x, hv, hk⟩) k
theorem ev_dload_n {n : Fin 4} {x : UInt64} (hv : lk L n = some (.double x)) (ht : TB y pc = some (.dload_n n, 1)) (e : pc + 1 = pc1) (k : Ev d scr y pc1 L (.double x :: r) M h D Q) : Ev d scr y pc L (r) M h D Q := by
  subst e
  exact ev_step (fun K Q1 hk => by unfold stepP; rw [ht]; exact ⟨rfl, x, hv, hk⟩) k
theorem ev_iload {n : Nat} {x : Int32} (hv : lk L n = some (.int x)) (ht : TB y pc = some (.iload n, 2)) (e : pc + 2 = pc1) (k : Ev d scr y pc1 L (.int x :: r) M h D Q) : Ev d scr y pc L (r) M h D Q := by
  subst e
  exact ev_step (fun K Q1 hk => by unfold stepP; rw [ht]; exact ⟨rfl, x, hv, hk⟩) k
theorem ev_dload {n : Nat} {x : UInt64} (hv : lk L n = some (.double x)) (ht : TB y pc = some (.dload n, 2)) (e : pc + 2 = pc1) (k : Ev d scr y pc1 L (.double x :: r) M h D Q) : Ev d scr y pc L (r) M h D Q := by
  subst e
  exact ev_step (fun K Q1 hk => by unfold stepP; rw [ht]; exact ⟨rfl, x, hv, hk⟩) k
theorem ev_istore_n {n : Fin 4} {x : Int32} {L1 : Lc} (hn : (n : Nat) < mml y) (hL : st1 L n (.int x) = L1) (ht : TB y pc = some (.istore_n n, 1)) (e : pc + 1 = pc1) (k : Ev d scr y pc1 L1 (r) M h D Q) : Ev d scr y pc L (.int x :: r) M h D Q := by
  subst e
  exact ev_step (fun K Q1 hk => by unfold stepP; rw [ht]; exact ⟨rfl, hn, x, r, rfl, by rw [hL]; exact hk⟩) k
theorem ev_istore {n : Nat} {x : Int32} {L1 : Lc} (hn : (n : Nat) < mml y) (hL : st1 L n (.int x) = L1) (ht : TB y pc = some (.istore n, 2)) (e : pc + 2 = pc1) (k : Ev d scr y pc1 L1 (r) M h D Q) : Ev d scr y pc L (.int x :: r) M h D Q := by
  subst e
  exact ev_step (fun K Q1 hk => by unfold stepP; rw [ht]; exact ⟨rfl, hn, x, r, rfl, by rw [hL]; exact hk⟩) k
theorem ev_astore_n {n : Fin 4} {x : Nat} {L1 : Lc} (hn : (n : Nat) < mml y) (hL : st1 L n (.ref x) = L1) (ht : TB y pc = some (.astore_n n, 1)) (e : pc + 1 = pc1) (k : Ev d scr y pc1 L1 (r) M h D Q) : Ev d scr y pc L (.ref x :: r) M h D Q := by
  subst e
  exact ev_step (fun K Q1 hk => by unfold stepP; rw [ht]; exact ⟨rfl, hn, x, r, rfl, by rw [hL]; exact hk⟩) k
theorem ev_fstore_n {n : Fin 4} {x : UInt32} {L1 : Lc} (hn : (n : Nat) < mml y) (hL : st1 L n (.float x) = L1) (ht : TB y pc = some (.fstore_n n, 1)) (e : pc + 1 = pc1) (k : Ev d scr y pc1 L1 (r) M h D Q) : Ev d scr y pc L (.float x :: r) M h D Q := by
  subst e
  exact ev_step (fun K Q1 hk => by unfold stepP; rw [ht]; exact ⟨rfl, hn, x, r, rfl, by rw [hL]; exact hk⟩) k
theorem ev_dstore {n : Nat} {x : UInt64} {L1 : Lc} (hn : n + 1 < mml y) (hL : st2 L n (.double x) = L1) (ht : TB y pc = some (.dstore n, 2)) (e : pc + 2 = pc1) (k : Ev d scr y pc1 L1 (r) M h D Q) : Ev d scr y pc L (.double x :: r) M h D Q := by
  subst e
  exact ev_step (fun K Q1 hk => by unfold stepP; rw [ht]; exact ⟨rfl, hn, x, r, rfl, by rw [hL]; exact hk⟩) k
theorem ev_iinc {n : Nat} {c : Int} {x cc : Int32} {L1 : Lc} (hv : lk L n = some (.int x)) (hn : n < mml y) (hc : Int32.ofInt c = cc) (hL : st1 L n (.int (x + cc)) = L1) (ht : TB y pc = some (.iinc n c, 3)) (e : pc + 3 = pc1) (k : Ev d scr y pc1 L1 (r) M h D Q) : Ev d scr y pc L (r) M h D Q := by
  subst e
  exact ev_step (fun K Q1 hk => by unfold stepP; rw [ht]; exact ⟨rfl, hn, x, hv, by rw [hc, hL]; exact hk⟩) k
theorem ev_iconst {c : Int} {x : Int32} (hx : Int32.ofInt c = x) (ht : TB y pc = some (.iconst c, 1)) (e : pc + 1 = pc1) (k : Ev d scr y pc1 L (.int x :: r) M h D Q) : Ev d scr y pc L (r) M h D Q := by
  subst e
  exact ev_step (fun K Q1 hk => by unfold stepP; rw [ht]; exact ⟨rfl, by rw [hx]; exact hk⟩) k
theorem ev_bipush {c : Int} {x : Int32} (hx : (Int8.ofInt c).toInt32 = x) (ht : TB y pc = some (.bipush c, 2)) (e : pc + 2 = pc1) (k : Ev d scr y pc1 L (.int x :: r) M h D Q) : Ev d scr y pc L (r) M h D Q := by
  subst e
  exact ev_step (fun K Q1 hk => by unfold stepP; rw [ht]; exact ⟨rfl, by rw [hx]; exact hk⟩) k
theorem ev_sipush {c : Int} {x : Int32} (hx : (Int16.ofInt c).toInt32 = x) (ht : TB y pc = some (.sipush c, 3)) (e : pc + 3 = pc1) (k : Ev d scr y pc1 L (.int x :: r) M h D Q) : Ev d scr y pc L (r) M h D Q := by
  subst e
  exact ev_step (fun K Q1 hk => by unfold stepP; rw [ht]; exact ⟨rfl, by rw [hx]; exact hk⟩) k
theorem ev_ldc {c : Nat} {x : Int32} (hx : cst (mown y) c = some (.int x)) (ht : TB y pc = some (.ldc c, 2)) (e : pc + 2 = pc1) (k : Ev d scr y pc1 L (.int x :: r) M h D Q) : Ev d scr y pc L (r) M h D Q := by
  subst e
  exact ev_step (fun K Q1 hk => by unfold stepP; rw [ht]; exact ⟨rfl, Or.inl ⟨x, hx, hk⟩⟩) k
theorem ev_ldcf {c : Nat} {x : UInt32} (hx : cst (mown y) c = some (.float x)) (ht : TB y pc = some (.ldc c, 2)) (e : pc + 2 = pc1) (k : Ev d scr y pc1 L (.float x :: r) M h D Q) : Ev d scr y pc L (r) M h D Q := by
  subst e
  exact ev_step (fun K Q1 hk => by unfold stepP; rw [ht]; exact ⟨rfl, Or.inr ⟨x, hx, hk⟩⟩) k
theorem ev_ldc_w {c : Nat} {x : Int32} (hx : cst (mown y) c = some (.int x)) (ht : TB y pc = some (.ldc_w c, 3)) (e : pc + 3 = pc1) (k : Ev d scr y pc1 L (.int x :: r) M h D Q) : Ev d scr y pc L (r) M h D Q := by
  subst e
  exact ev_step (fun K Q1 hk => by unfold stepP; rw [ht]; exact ⟨rfl, x, hx, hk⟩) k
theorem ev_ldc2_w {c : Nat} {x : UInt64} (hx : cst (mown y) c = some (.double x)) (ht : TB y pc = some (.ldc2_w c, 3)) (e : pc + 3 = pc1) (k : Ev d scr y pc1 L (.double x :: r) M h D Q) : Ev d scr y pc L (r) M h D Q := by
  subst e
  exact ev_step (fun K Q1 hk => by unfold stepP; rw [ht]; exact ⟨rfl, x, hx, hk⟩) k
theorem ev_fconst0  (ht : TB y pc = some (.fconst 0, 1)) (e : pc + 1 = pc1) (k : Ev d scr y pc1 L (.float FP.fconst0 :: r) M h D Q) : Ev d scr y pc L (r) M h D Q := by
  subst e
  exact ev_step (fun K Q1 hk => by unfold stepP; rw [ht]; exact ⟨rfl, Or.inl ⟨rfl, hk⟩⟩) k
theorem ev_fconst1  (ht : TB y pc = some (.fconst 1, 1)) (e : pc + 1 = pc1) (k : Ev d scr y pc1 L (.float FP.fconst1 :: r) M h D Q) : Ev d scr y pc L (r) M h D Q := by
  subst e
  exact ev_step (fun K Q1 hk => by unfold stepP; rw [ht]; exact ⟨rfl, Or.inr (Or.inl ⟨rfl, hk⟩)⟩) k
theorem ev_fconst2  (ht : TB y pc = some (.fconst 2, 1)) (e : pc + 1 = pc1) (k : Ev d scr y pc1 L (.float FP.fconst2 :: r) M h D Q) : Ev d scr y pc L (r) M h D Q := by
  subst e
  exact ev_step (fun K Q1 hk => by unfold stepP; rw [ht]; exact ⟨rfl, Or.inr (Or.inr ⟨rfl, hk⟩)⟩) k
theorem ev_dconst0  (ht : TB y pc = some (.dconst 0, 1)) (e : pc + 1 = pc1) (k : Ev d scr y pc1 L (.double FP.dconst0 :: r) M h D Q) : Ev d scr y pc L (r) M h D Q := by
  subst e
  exact ev_step (fun K Q1 hk => by unfold stepP; rw [ht]; exact ⟨rfl, Or.inl ⟨rfl, hk⟩⟩) k
theorem ev_dconst1  (ht : TB y pc = some (.dconst 1, 1)) (e : pc + 1 = pc1) (k : Ev d scr y pc1 L (.double FP.dconst1 :: r) M h D Q) : Ev d scr y pc L (r) M h D Q := by
  subst e
  exact ev_step (fun K Q1 hk => by unfold stepP; rw [ht]; exact ⟨rfl, Or.inr ⟨rfl, hk⟩⟩) k
theorem ev_iadd {a b : Int32} (ht : TB y pc = some (.iadd, 1)) (e : pc + 1 = pc1) (k : Ev d scr y pc1 L (.int (a + b) :: r) M h D Q) : Ev d scr y pc L (.int b :: .int a :: r) M h D Q := by
  subst e
  exact ev_step (fun K Q1 hk => by unfold stepP; rw [ht]; exact ⟨rfl, a, b, r, rfl, hk⟩) k
theorem ev_isub {a b : Int32} (ht : TB y pc = some (.isub, 1)) (e : pc + 1 = pc1) (k : Ev d scr y pc1 L (.int (a - b) :: r) M h D Q) : Ev d scr y pc L (.int b :: .int a :: r) M h D Q := by
  subst e
  exact ev_step (fun K Q1 hk => by unfold stepP; rw [ht]; exact ⟨rfl, a, b, r, rfl, hk⟩) k
theorem ev_imul {a b : Int32} (ht : TB y pc = some (.imul, 1)) (e : pc + 1 = pc1) (k : Ev d scr y pc1 L (.int (a * b) :: r) M h D Q) : Ev d scr y pc L (.int b :: .int a :: r) M h D Q := by
  subst e
  exact ev_step (fun K Q1 hk => by unfold stepP; rw [ht]; exact ⟨rfl, a, b, r, rfl, hk⟩) k
theorem ev_iand {a b : Int32} (ht : TB y pc = some (.iand, 1)) (e : pc + 1 = pc1) (k : Ev d scr y pc1 L (.int (a &&& b) :: r) M h D Q) : Ev d scr y pc L (.int b :: .int a :: r) M h D Q := by
  subst e
  exact ev_step (fun K Q1 hk => by unfold stepP; rw [ht]; exact ⟨rfl, a, b, r, rfl, hk⟩) k
theorem ev_ior {a b : Int32} (ht : TB y pc = some (.ior, 1)) (e : pc + 1 = pc1) (k : Ev d scr y pc1 L (.int (a ||| b) :: r) M h D Q) : Ev d scr y pc L (.int b :: .int a :: r) M h D Q := by
  subst e
  exact ev_step (fun K Q1 hk => by unfold stepP; rw [ht]; exact ⟨rfl, a, b, r, rfl, hk⟩) k
theorem ev_ixor {a b : Int32} (ht : TB y pc = some (.ixor, 1)) (e : pc + 1 = pc1) (k : Ev d scr y pc1 L (.int (a ^^^ b) :: r) M h D Q) : Ev d scr y pc L (.int b :: .int a :: r) M h D Q := by
  subst e
  exact ev_step (fun K Q1 hk => by unfold stepP; rw [ht]; exact ⟨rfl, a, b, r, rfl, hk⟩) k
theorem ev_ishl {a b : Int32} (ht : TB y pc = some (.ishl, 1)) (e : pc + 1 = pc1) (k : Ev d scr y pc1 L (.int (a <<< (b &&& 31)) :: r) M h D Q) : Ev d scr y pc L (.int b :: .int a :: r) M h D Q := by
  subst e
  exact ev_step (fun K Q1 hk => by unfold stepP; rw [ht]; exact ⟨rfl, a, b, r, rfl, hk⟩) k
theorem ev_ishr {a b : Int32} (ht : TB y pc = some (.ishr, 1)) (e : pc + 1 = pc1) (k : Ev d scr y pc1 L (.int (a >>> (b &&& 31)) :: r) M h D Q) : Ev d scr y pc L (.int b :: .int a :: r) M h D Q := by
  subst e
  exact ev_step (fun K Q1 hk => by unfold stepP; rw [ht]; exact ⟨rfl, a, b, r, rfl, hk⟩) k
theorem ev_iushr {a b : Int32} (ht : TB y pc = some (.iushr, 1)) (e : pc + 1 = pc1) (k : Ev d scr y pc1 L (.int ((a.toUInt32 >>> (b.toUInt32 &&& Int32.toUInt32 31)).toInt32) :: r) M h D Q) : Ev d scr y pc L (.int b :: .int a :: r) M h D Q := by
  subst e
  exact ev_step (fun K Q1 hk => by unfold stepP; rw [ht]; exact ⟨rfl, a, b, r, rfl, hk⟩) k
theorem ev_irem {a b : Int32} (hn : b ≠ 0) (ht : TB y pc = some (.irem, 1)) (e : pc + 1 = pc1) (k : Ev d scr y pc1 L (.int (a - a / b * b) :: r) M h D Q) : Ev d scr y pc L (.int b :: .int a :: r) M h D Q := by
  subst e
  exact ev_step (fun K Q1 hk => by unfold stepP; rw [ht]; exact ⟨rfl, a, b, r, rfl, hn, hk⟩) k
theorem ev_i2d {a : Int32} (ht : TB y pc = some (.i2d, 1)) (e : pc + 1 = pc1) (k : Ev d scr y pc1 L (.double (FP.i2d a) :: r) M h D Q) : Ev d scr y pc L (.int a :: r) M h D Q := by
  subst e
  exact ev_step (fun K Q1 hk => by unfold stepP; rw [ht]; exact ⟨rfl, a, r, rfl, hk⟩) k
theorem ev_f2i {a : UInt32} (ht : TB y pc = some (.f2i, 1)) (e : pc + 1 = pc1) (k : Ev d scr y pc1 L (.int (FP.f2i a) :: r) M h D Q) : Ev d scr y pc L (.float a :: r) M h D Q := by
  subst e
  exact ev_step (fun K Q1 hk => by unfold stepP; rw [ht]; exact ⟨rfl, a, r, rfl, hk⟩) k
theorem ev_d2f {a : UInt64} (hn : vf_n32 (FP.d2f a)) (ht : TB y pc = some (.d2f, 1)) (e : pc + 1 = pc1) (k : Ev d scr y pc1 L (.float (FP.d2f a) :: r) M h D Q) : Ev d scr y pc L (.double a :: r) M h D Q := by
  subst e
  exact ev_step (fun K Q1 hk => by unfold stepP; rw [ht]; exact ⟨rfl, a, r, rfl, hn, hk⟩) k
theorem ev_dadd {a b : UInt64} (hn : vf_n64 (FP.dadd a b)) (ht : TB y pc = some (.dadd, 1)) (e : pc + 1 = pc1) (k : Ev d scr y pc1 L (.double (FP.dadd a b) :: r) M h D Q) : Ev d scr y pc L (.double b :: .double a :: r) M h D Q := by
  subst e
  exact ev_step (fun K Q1 hk => by unfold stepP; rw [ht]; exact ⟨rfl, a, b, r, rfl, hn, hk⟩) k
theorem ev_ddiv {a b : UInt64} (hn : vf_n64 (FP.ddiv a b)) (ht : TB y pc = some (.ddiv, 1)) (e : pc + 1 = pc1) (k : Ev d scr y pc1 L (.double (FP.ddiv a b) :: r) M h D Q) : Ev d scr y pc L (.double b :: .double a :: r) M h D Q := by
  subst e
  exact ev_step (fun K Q1 hk => by unfold stepP; rw [ht]; exact ⟨rfl, a, b, r, rfl, hn, hk⟩) k
theorem ev_fsub {a b : UInt32} (hn : vf_n32 (FP.fsub a b)) (ht : TB y pc = some (.fsub, 1)) (e : pc + 1 = pc1) (k : Ev d scr y pc1 L (.float (FP.fsub a b) :: r) M h D Q) : Ev d scr y pc L (.float b :: .float a :: r) M h D Q := by
  subst e
  exact ev_step (fun K Q1 hk => by unfold stepP; rw [ht]; exact ⟨rfl, a, b, r, rfl, hn, hk⟩) k
theorem ev_fmul {a b : UInt32} (hn : vf_n32 (FP.fmul a b)) (ht : TB y pc = some (.fmul, 1)) (e : pc + 1 = pc1) (k : Ev d scr y pc1 L (.float (FP.fmul a b) :: r) M h D Q) : Ev d scr y pc L (.float b :: .float a :: r) M h D Q := by
  subst e
  exact ev_step (fun K Q1 hk => by unfold stepP; rw [ht]; exact ⟨rfl, a, b, r, rfl, hn, hk⟩) k
theorem ev_fdiv {a b : UInt32} (hn : vf_n32 (FP.fdiv a b)) (ht : TB y pc = some (.fdiv, 1)) (e : pc + 1 = pc1) (k : Ev d scr y pc1 L (.float (FP.fdiv a b) :: r) M h D Q) : Ev d scr y pc L (.float b :: .float a :: r) M h D Q := by
  subst e
  exact ev_step (fun K Q1 hk => by unfold stepP; rw [ht]; exact ⟨rfl, a, b, r, rfl, hn, hk⟩) k
theorem ev_fcmp {a b : UInt32} {op : CmpOp} (ht : TB y pc = some (.fcmp op, 1)) (e : pc + 1 = pc1) (k : Ev d scr y pc1 L (.int (Op.cmpValue (FP.fcmp a b) op) :: r) M h D Q) : Ev d scr y pc L (.float b :: .float a :: r) M h D Q := by
  subst e
  exact ev_step (fun K Q1 hk => by unfold stepP; rw [ht]; exact ⟨rfl, a, b, r, rfl, hk⟩) k
theorem ev_dcmp {a b : UInt64} {op : CmpOp} (ht : TB y pc = some (.dcmp op, 1)) (e : pc + 1 = pc1) (k : Ev d scr y pc1 L (.int (Op.cmpValue (FP.dcmp a b) op) :: r) M h D Q) : Ev d scr y pc L (.double b :: .double a :: r) M h D Q := by
  subst e
  exact ev_step (fun K Q1 hk => by unfold stepP; rw [ht]; exact ⟨rfl, a, b, r, rfl, hk⟩) k
theorem ev_dup {v : Value} (hv : v.category = 1) (ht : TB y pc = some (.dup, 1)) (e : pc + 1 = pc1) (k : Ev d scr y pc1 L (v :: v :: r) M h D Q) : Ev d scr y pc L (v :: r) M h D Q := by
  subst e
  exact ev_step (fun K Q1 hk => by unfold stepP; rw [ht]; exact ⟨rfl, v, r, rfl, hv, hk⟩) k
theorem ev_dup2 {v w : Value} (hv : v.category = 1) (hw : w.category = 1) (ht : TB y pc = some (.dup2, 1)) (e : pc + 1 = pc1) (k : Ev d scr y pc1 L (v :: w :: v :: w :: r) M h D Q) : Ev d scr y pc L (v :: w :: r) M h D Q := by
  subst e
  exact ev_step (fun K Q1 hk => by unfold stepP; rw [ht]; exact ⟨rfl, v, w, r, rfl, hv, hw, hk⟩) k
theorem ev_ifnull {c : Nat} {off : Int} (ht : TB y pc = some (.ifnull off, 3)) (e : pc + 3 = pc1) (k : Ev d scr y pc1 L (r) M h D Q) : Ev d scr y pc L (.ref c :: r) M h D Q := by
  subst e
  exact ev_step (fun K Q1 hk => by unfold stepP; rw [ht]; exact ⟨rfl, c, r, rfl, hk⟩) k
theorem tg_ok {off : Int} {t : Nat} (ht : (pc : Int) + off = (t : Int)) : tgOk pc off ∧ tg pc off = t := by
  have h1 : tg pc off = t := by unfold tg; rw [ht]; rfl
  exact ⟨by unfold tgOk; rw [h1]; exact ht, h1⟩
theorem ev_goto {off : Int} (ht : TB y pc = some (.goto off, 3)) (e : (pc : Int) + off = (pc1 : Int)) (k : Ev d scr y pc1 L r M h D Q) : Ev d scr y pc L r M h D Q := by
  obtain ⟨h1, h2⟩ := tg_ok e
  exact ev_step (fun K Q1 hk => by unfold stepP; rw [ht]; exact ⟨rfl, h1, by rw [h2]; exact hk⟩) k
theorem ev_if {q : ClassFile.Cond} {off : Int} {x : Int32} {t : Nat} (ht : TB y pc = some (.ifCond q off, 3)) (e1 : (pc : Int) + off = (t : Int)) (e : pc + 3 = pc1) (k1 : cnd q x 0 → Ev d scr y t L r M h D Q) (k2 : ¬ cnd q x 0 → Ev d scr y pc1 L r M h D Q) : Ev d scr y pc L (.int x :: r) M h D Q := by
  subst e
  obtain ⟨h1, h2⟩ := tg_ok e1
  by_cases hc : cnd q x 0
  · exact ev_step (fun K Q1 hk => by unfold stepP; rw [ht]; exact ⟨rfl, h1, x, r, rfl, fun _ => by rw [h2]; exact hk, fun z => absurd hc z⟩) (k1 hc)
  · exact ev_step (fun K Q1 hk => by unfold stepP; rw [ht]; exact ⟨rfl, h1, x, r, rfl, fun z => absurd z hc, fun _ => hk⟩) (k2 hc)
theorem ev_icmp {q : ClassFile.Cond} {off : Int} {a b : Int32} {t : Nat} (ht : TB y pc = some (.if_icmp q off, 3)) (e1 : (pc : Int) + off = (t : Int)) (e : pc + 3 = pc1) (k1 : cnd q a b → Ev d scr y t L r M h D Q) (k2 : ¬ cnd q a b → Ev d scr y pc1 L r M h D Q) : Ev d scr y pc L (.int b :: .int a :: r) M h D Q := by
  subst e
  obtain ⟨h1, h2⟩ := tg_ok e1
  by_cases hc : cnd q a b
  · exact ev_step (fun K Q1 hk => by unfold stepP; rw [ht]; exact ⟨rfl, h1, a, b, r, rfl, fun _ => by rw [h2]; exact hk, fun z => absurd hc z⟩) (k1 hc)
  · exact ev_step (fun K Q1 hk => by unfold stepP; rw [ht]; exact ⟨rfl, h1, a, b, r, rfl, fun z => absurd z hc, fun _ => hk⟩) (k2 hc)
/-- a table: the places in their order; what is in none goes on at the default -/
theorem ev_table {dd lo hi : Int} {offs : Array Int} {n : Nat} {x : Int32} (ht : TB y pc = some (.tableswitch dd lo hi offs, n)) (k1 : (x.toInt < lo ∨ hi < x.toInt) → ∃ t : Nat, (pc : Int) + dd = (t : Int) ∧ Ev d scr y t L r M h D Q) (k2 : ¬ (x.toInt < lo ∨ hi < x.toInt) → ∃ (off : Int) (t : Nat), offs[(x.toInt - lo).toNat]? = some off ∧ (pc : Int) + off = (t : Int) ∧ Ev d scr y t L r M h D Q) : Ev d scr y pc L (.int x :: r) M h D Q := by
  by_cases hc : x.toInt < lo ∨ hi < x.toInt
  · obtain ⟨t, e, k⟩ := k1 hc
    obtain ⟨h1, h2⟩ := tg_ok e
    exact ev_step (fun K Q1 hk => by unfold stepP; rw [ht]; exact ⟨x, r, rfl, fun _ => ⟨h1, by rw [h2]; exact hk⟩, fun z => absurd hc z⟩) k
  · obtain ⟨off, t, ho, e, k⟩ := k2 hc
    obtain ⟨h1, h2⟩ := tg_ok e
    exact ev_step (fun K Q1 hk => by unfold stepP; rw [ht]; exact ⟨x, r, rfl, fun z => absurd z hc, fun _ => ⟨off, ho, h1, by rw [h2]; exact hk⟩⟩) k
theorem ev_lookup {dd : Int} {ps : Array (Int × Int)} {n t : Nat} {x : Int32} (ht : TB y pc = some (.lookupswitch dd ps, n)) (ho : (ps.toList.zip (ps.toList.drop 1)).all (fun (a, next) => a.1 < next.1) = true) (e : (pc : Int) + Op.lookupswitch.offset ps.toList dd x.toInt = (t : Int)) (k : Ev d scr y t L r M h D Q) : Ev d scr y pc L (.int x :: r) M h D Q := by
  obtain ⟨h1, h2⟩ := tg_ok e
  exact ev_step (fun K Q1 hk => by unfold stepP; rw [ht]; exact ⟨ho, x, r, rfl, h1, by rw [h2]; exact hk⟩) k
theorem ev_ireturn {x : Int32} (ht : TB y pc = some (.ireturn, 1)) (hr : retI y x) (hq : Q (some (.int x)) M h D) : Ev d scr y pc L [.int x] M h D Q :=
  ev_ret (fun K Q1 hk => by unfold stepP; rw [ht]; exact ⟨rfl, x, rfl, hr, hk⟩) hq
theorem ev_dreturn {x : UInt64} (ht : TB y pc = some (.dreturn, 1)) (hr : mrt y = some .double) (hq : Q (some (.double x)) M h D) : Ev d scr y pc L [.double x] M h D Q :=
  ev_ret (fun K Q1 hk => by unfold stepP; rw [ht]; exact ⟨rfl, x, rfl, hr, hk⟩) hq
theorem ev_return (ht : TB y pc = some (.return_, 1)) (hr : mrt y = none) (hq : Q none M h D) : Ev d scr y pc L [] M h D Q :=
  ev_ret (fun K Q1 hk => by unfold stepP; rw [ht]; exact ⟨rfl, rfl, hr, hk⟩) hq
theorem retI_i {x : Int32} (h : mrt y = some .int) : retI y x := Or.inl h
theorem retI_z {x : Int32} (h : mrt y = some .boolean) (hx : x = 0 ∨ x = 1) : retI y x := Or.inr ⟨h, hx⟩
theorem ev_getI {ix c ci k : Nat} (ht : TB y pc = some (.getfield ix, 3)) (e : pc + 3 = pc1) (hf : fld (mown y) ix = some (ci, k)) (hc : c < 73) (hs : SH c = (0, ci)) (hk : k < nf ci) (hi : fkd ci k ≠ 2) (kk : Ev d scr y pc1 L (.int (M c k) :: r) M h D Q) : Ev d scr y pc L (.ref c :: r) M h D Q := by
  subst e
  have e2 : fv (rs M h D) c ci k = .int (M c k) := by
    unfold fv
    split
    · exact absurd (by assumption) hi
    · rfl
  exact ev_step (fun K Q1 hk2 => by unfold stepP; rw [ht]; exact ⟨rfl, c, r, ci, k, rfl, hf, hc, hs, hk, by rw [e2]; exact hk2⟩) kk
theorem ev_getP {ix c ci k a : Nat} (ht : TB y pc = some (.getfield ix, 3)) (e : pc + 3 = pc1) (hf : fld (mown y) ix = some (ci, k)) (hc : c < 73) (hs : SH c = (0, ci)) (hk : k < nf ci) (hi : fkd ci k = 2) (h28 : c ≠ 28) (hp : PF c k = some a) (kk : Ev d scr y pc1 L (.ref a :: r) M h D Q) : Ev d scr y pc L (.ref c :: r) M h D Q := by
  subst e
  have e2 : fv (rs M h D) c ci k = .ref a := by
    unfold fv
    rw [hi]
    show vrf (PH h c k) = _
    rw [PH_ne h28, hp]
    rfl
  exact ev_step (fun K Q1 hk2 => by unfold stepP; rw [ht]; exact ⟨rfl, c, r, ci, k, rfl, hf, hc, hs, hk, by rw [e2]; exact hk2⟩) kk
theorem ev_putI {ix c ci k : Nat} {x : Int32} (ht : TB y pc = some (.putfield ix, 3)) (e : pc + 3 = pc1) (hf : fld (mown y) ix = some (ci, k)) (hc : c < 73) (hs : SH c = (0, ci)) (hk : k < nf ci) (hi : fkd ci k = 0) (hn : fin ci k = false) (kk : Ev d scr y pc1 L r (up2 M c k x) h D Q) : Ev d scr y pc L (.int x :: .ref c :: r) M h D Q := by
  subst e
  exact ev_step (fun K Q1 hk2 => by unfold stepP; rw [ht]; exact ⟨rfl, _, c, r, ci, k, rfl, hf, hc, hs, hk, (fun z => by rw [hn] at z; cases z), Or.inl ⟨x, rfl, hi, hk2⟩⟩) kk
theorem ev_putZ {ix c ci k : Nat} {x : Int32} (ht : TB y pc = some (.putfield ix, 3)) (e : pc + 3 = pc1) (hf : fld (mown y) ix = some (ci, k)) (hc : c < 73) (hs : SH c = (0, ci)) (hk : k < nf ci) (hi : fkd ci k = 1) (hn : fin ci k = false) (hx : x = 0 ∨ x = 1) (kk : Ev d scr y pc1 L r (up2 M c k x) h D Q) : Ev d scr y pc L (.int x :: .ref c :: r) M h D Q := by
  subst e
  exact ev_step (fun K Q1 hk2 => by unfold stepP; rw [ht]; exact ⟨rfl, _, c, r, ci, k, rfl, hf, hc, hs, hk, (fun z => by rw [hn] at z; cases z), Or.inr (Or.inl ⟨x, rfl, hi, hx, hk2⟩)⟩) kk
theorem ev_iaload {i : Int32} {c n : Nat} (ht : TB y pc = some (.iaload, 1)) (e : pc + 1 = pc1) (hc : c < 73) (hs : SH c = (1, n)) (hi : vp_in i n) (kk : Ev d scr y pc1 L (.int (M c i.toNatClampNeg) :: r) M h D Q) : Ev d scr y pc L (.int i :: .ref c :: r) M h D Q := by
  subst e
  exact ev_step (fun K Q1 hk2 => by unfold stepP; rw [ht]; exact ⟨rfl, Or.inl ⟨i, c, r, rfl, hc, by rw [hs], by rw [hs]; exact hi, hk2⟩⟩) kk
theorem ev_saload {i : Int32} {a n : Nat} {xs : Nat → Int32} (ht : TB y pc = some (.iaload, 1)) (e : pc + 1 = pc1) (hs : scr = some (n, xs)) (hi : vp_in i n) (kk : Ev d scr y pc1 L (.int (xs i.toNatClampNeg) :: r) M h D Q) : Ev d scr y pc L (.int i :: .retAddr a :: r) M h D Q := by
  subst e
  exact ev_step (fun K Q1 hk2 => by unfold stepP; rw [ht]; exact ⟨rfl, Or.inr ⟨i, a, r, n, xs, rfl, hs, hi, hk2⟩⟩) kk
theorem ev_slen {a n : Nat} {xs : Nat → Int32} (ht : TB y pc = some (.arraylength, 1)) (e : pc + 1 = pc1) (hs : scr = some (n, xs)) (kk : Ev d scr y pc1 L (.int (Int32.ofNat n) :: r) M h D Q) : Ev d scr y pc L (.retAddr a :: r) M h D Q := by
  subst e
  exact ev_step (fun K Q1 hk2 => by unfold stepP; rw [ht]; exact ⟨rfl, a, r, n, xs, rfl, hs, hk2⟩) kk
/-- a place of the history -/
theorem ev_aaload {i : Int32} {a : Nat} (ht : TB y pc = some (.aaload, 1)) (e : pc + 1 = pc1) (hi : vp_in i 4) (ha : h i.toNatClampNeg = some a) (kk : Ev d scr y pc1 L (.ref a :: r) M h D Q) : Ev d scr y pc L (.int i :: .ref 28 :: r) M h D Q := by
  subst e
  have e2 : vrf ((rs M h D).2.2.1 28 i.toNatClampNeg) = .ref a := by
    show vrf (PH h 28 _) = _
    rw [PH_28, ha]; rfl
  exact ev_step (fun K Q1 hk2 => by unfold stepP; rw [ht]; exact ⟨rfl, i, 28, r, rfl, (by decide : 28 < 73), rfl, hi, by rw [e2]; exact hk2⟩) kk
theorem ev_aastore {i : Int32} {a : Nat} (ht : TB y pc = some (.aastore, 1)) (e : pc + 1 = pc1) (hi : vp_in i 4) (ha : a < 73) (hsa : SH a = (0, 2)) (kk : Ev d scr y pc1 L r M (va_up h i.toNatClampNeg (some a)) D Q) : Ev d scr y pc L (.ref a :: .int i :: .ref 28 :: r) M h D Q := by
  subst e
  exact ev_step (fun K Q1 hk2 => by unfold stepP; rw [ht]; exact ⟨rfl, a, i, 28, r, rfl, (by decide : 28 < 73), rfl, hi, ha, hsa, by rw [setP_rs]; exact hk2⟩) kk
theorem ev_iastore {i x : Int32} {c n : Nat} (ht : TB y pc = some (.iastore, 1)) (e : pc + 1 = pc1) (hc : c < 73) (hs : SH c = (1, n)) (hi : vp_in i n) (kk : Ev d scr y pc1 L r (up2 M c i.toNatClampNeg x) h D Q) : Ev d scr y pc L (.int x :: .int i :: .ref c :: r) M h D Q := by
  subst e
  exact ev_step (fun K Q1 hk2 => by unfold stepP; rw [ht]; exact ⟨rfl, x, i, c, r, rfl, hc, by rw [hs], by rw [hs]; exact hi, hk2⟩) kk
theorem ev_copy {z : Int32} {c0 c1 n0 n1 ix n : Nat} (ht : TB y pc = some (.invokestatic ix, 3)) (e : pc + 3 = pc1) (hl : lnk (mown y) ix = some (6, 0)) (hst : stw r ≤ 8) (hd : 1 ≤ d) (hc0 : c0 < 73) (hc1 : c1 < 73) (hs0 : SH c0 = (1, n0)) (hs1 : SH c1 = (1, n1)) (hz : z = nI n) (hn : n < 100) (h0 : n ≤ n0) (h1 : n ≤ n1) (kk : Ev d scr y pc1 L r (cp2 M c0 0 c1 0 n) h D Q) : Ev d scr y pc L (.int z :: .int 0 :: .ref c1 :: .int 0 :: .ref c0 :: r) M h D Q := by
  subst e
  subst hz
  have e1 : (nI n).toNatClampNeg = n := nI_clamp (by omega)
  have e0 : (0 : Int32).toNatClampNeg = 0 := by decide
  exact ev_step (fun K Q1 hk2 => by unfold stepP; rw [ht]; exact ⟨rfl, Or.inr (Or.inl ⟨nI n, 0, c1, 0, c0, r, hl, rfl, hst, hd, hc0, hc1, by rw [hs0], by rw [hs1], by decide, by decide, nI_pos (by omega), by rw [e0, e1, hs0]; omega, by rw [e0, e1, hs1]; omega, by rw [e0, e1]; exact hk2⟩)⟩) kk
theorem ev_max {a b : Int32} {ix y1 : Nat} (ht : TB y pc = some (.invokestatic ix, 3)) (e : pc + 3 = pc1) (hl : lnk (mown y) ix = some (8, y1)) (hst : stw r ≤ 8) (hd : 1 ≤ d) (kk : Ev d scr y pc1 L (.int (if a < b then b else a) :: r) M h D Q) : Ev d scr y pc L (.int b :: .int a :: r) M h D Q := by
  subst e
  exact ev_step (fun K Q1 hk2 => by unfold stepP; rw [ht]; exact ⟨rfl, Or.inr (Or.inr ⟨a, b, r, y1, hl, rfl, hst, hd, Nat.le_refl _, hk2⟩)⟩) kk
/-! calls -/
theorem ev_callv {ix y1 c : Nat} {v : Option Value} {M1 : Im} {h1 : Hm} {D1 : Dm} (ht : TB y pc = some (.invokevirtual ix, 3)) (e : pc + 3 = pc1) (hl : lnk (mown y) ix = some (0, y1)) (hst : st = as.reverse ++ .ref c :: r) (hn : as.length = mna y1) (hc : c < 73) (hs : SH c = (0, mown y1)) (hw : stw r ≤ 8) (he : ExecS scr d y1 (.ref c :: as) (rs M h D) v (rs M1 h1 D1)) (kk : Ev d scr y pc1 L (v.toList ++ r) M1 h1 D1 Q) : Ev d scr y pc L st M h D Q := by
  subst e
  exact ev_step (fun K Q1 hk2 => by unfold stepP; rw [ht]; exact ⟨rfl, y1, as, c, r, v, _, hl, hst, hn, hc, hs, hw, he, Nat.le_refl _, hk2⟩) kk
theorem ev_calls {ix y1 kd : Nat} {v : Option Value} {M1 : Im} {h1 : Hm} {D1 : Dm} (ht : TB y pc = some (.invokestatic ix, 3)) (e : pc + 3 = pc1) (hl : lnk (mown y) ix = some (kd, y1)) (hkd : kd = 1 ∨ kd = 3) (hst : st = as.reverse ++ r) (hn : as.length = mna y1) (hw : stw r ≤ 8) (he : ExecS scr d y1 as (rs M h D) v (rs M1 h1 D1)) (kk : Ev d scr y pc1 L (v.toList ++ r) M1 h1 D1 Q) : Ev d scr y pc L st M h D Q := by
  subst e
  exact ev_step (fun K Q1 hk2 => by unfold stepP; rw [ht]; exact ⟨rfl, Or.inl ⟨y1, as, r, v, _, kd, hl, hkd, hst, hn, hw, he, Nat.le_refl _, hk2⟩⟩) kk
theorem ev_callvI {ix y1 c : Nat} {K : Int32 → Im → Hm → Dm → Prop} (ht : TB y pc = some (.invokevirtual ix, 3)) (e : pc + 3 = pc1) (hl : lnk (mown y) ix = some (0, y1)) (hst : st = as.reverse ++ .ref c :: r) (hn : as.length = mna y1) (hc : c < 73) (hs : SH c = (0, mown y1)) (hw : stw r ≤ 8) (H : CI d y1 (.ref c :: as) M h D K) (kk : ∀ x M1 h1 D1, K x M1 h1 D1 → Ev d scr y pc1 L (.int x :: r) M1 h1 D1 Q) : Ev d scr y pc L st M h D Q := by
  obtain ⟨x, M1, h1, D1, he, hq⟩ := H
  exact ev_callv ht e hl hst hn hc hs hw (exec_sc _ _ _ _ _ _ he) (kk x M1 h1 D1 hq)
theorem ev_callsI {ix y1 kd : Nat} {K : Int32 → Im → Hm → Dm → Prop} (ht : TB y pc = some (.invokestatic ix, 3)) (e : pc + 3 = pc1) (hl : lnk (mown y) ix = some (kd, y1)) (hkd : kd = 1 ∨ kd = 3) (hst : st = as.reverse ++ r) (hn : as.length = mna y1) (hw : stw r ≤ 8) (H : CI d y1 as M h D K) (kk : ∀ x M1 h1 D1, K x M1 h1 D1 → Ev d scr y pc1 L (.int x :: r) M1 h1 D1 Q) : Ev d scr y pc L st M h D Q := by
  obtain ⟨x, M1, h1, D1, he, hq⟩ := H
  exact ev_calls ht e hl hkd hst hn hw (exec_sc _ _ _ _ _ _ he) (kk x M1 h1 D1 hq)
theorem ev_callvD {ix y1 c : Nat} {K : UInt64 → Im → Hm → Dm → Prop} (ht : TB y pc = some (.invokevirtual ix, 3)) (e : pc + 3 = pc1) (hl : lnk (mown y) ix = some (0, y1)) (hst : st = as.reverse ++ .ref c :: r) (hn : as.length = mna y1) (hc : c < 73) (hs : SH c = (0, mown y1)) (hw : stw r ≤ 8) (H : CD d y1 (.ref c :: as) M h D K) (kk : ∀ x M1 h1 D1, K x M1 h1 D1 → Ev d scr y pc1 L (.double x :: r) M1 h1 D1 Q) : Ev d scr y pc L st M h D Q := by
  obtain ⟨x, M1, h1, D1, he, hq⟩ := H
  exact ev_callv ht e hl hst hn hc hs hw (exec_sc _ _ _ _ _ _ he) (kk x M1 h1 D1 hq)
theorem ev_callsD {ix y1 kd : Nat} {K : UInt64 → Im → Hm → Dm → Prop} (ht : TB y pc = some (.invokestatic ix, 3)) (e : pc + 3 = pc1) (hl : lnk (mown y) ix = some (kd, y1)) (hkd : kd = 1 ∨ kd = 3) (hst : st = as.reverse ++ r) (hn : as.length = mna y1) (hw : stw r ≤ 8) (H : CD d y1 as M h D K) (kk : ∀ x M1 h1 D1, K x M1 h1 D1 → Ev d scr y pc1 L (.double x :: r) M1 h1 D1 Q) : Ev d scr y pc L st M h D Q := by
  obtain ⟨x, M1, h1, D1, he, hq⟩ := H
  exact ev_calls ht e hl hkd hst hn hw (exec_sc _ _ _ _ _ _ he) (kk x M1 h1 D1 hq)
theorem ev_callvV {ix y1 c : Nat} {K : Im → Hm → Dm → Prop} (ht : TB y pc = some (.invokevirtual ix, 3)) (e : pc + 3 = pc1) (hl : lnk (mown y) ix = some (0, y1)) (hst : st = as.reverse ++ .ref c :: r) (hn : as.length = mna y1) (hc : c < 73) (hs : SH c = (0, mown y1)) (hw : stw r ≤ 8) (H : CV d y1 (.ref c :: as) M h D K) (kk : ∀ M1 h1 D1, K M1 h1 D1 → Ev d scr y pc1 L r M1 h1 D1 Q) : Ev d scr y pc L st M h D Q := by
  obtain ⟨M1, h1, D1, he, hq⟩ := H
  exact ev_callv ht e hl hst hn hc hs hw (exec_sc _ _ _ _ _ _ he) (kk M1 h1 D1 hq)
theorem ev_callsV {ix y1 kd : Nat} {K : Im → Hm → Dm → Prop} (ht : TB y pc = some (.invokestatic ix, 3)) (e : pc + 3 = pc1) (hl : lnk (mown y) ix = some (kd, y1)) (hkd : kd = 1 ∨ kd = 3) (hst : st = as.reverse ++ r) (hn : as.length = mna y1) (hw : stw r ≤ 8) (H : CV d y1 as M h D K) (kk : ∀ M1 h1 D1, K M1 h1 D1 → Ev d scr y pc1 L r M1 h1 D1 Q) : Ev d scr y pc L st M h D Q := by
  obtain ⟨M1, h1, D1, he, hq⟩ := H
  exact ev_calls ht e hl hkd hst hn hw (exec_sc _ _ _ _ _ _ he) (kk M1 h1 D1 hq)
theorem ev_callsS {ix y1 kd : Nat} {K : Int32 → Im → Hm → Dm → Prop} (ht : TB y pc = some (.invokestatic ix, 3)) (e : pc + 3 = pc1) (hl : lnk (mown y) ix = some (kd, y1)) (hkd : kd = 1 ∨ kd = 3) (hst : st = as.reverse ++ r) (hn : as.length = mna y1) (hw : stw r ≤ 8) (H : CIS scr d y1 as M h D K) (kk : ∀ x M1 h1 D1, K x M1 h1 D1 → Ev d scr y pc1 L (.int x :: r) M1 h1 D1 Q) : Ev d scr y pc L st M h D Q := by
  obtain ⟨x, M1, h1, D1, he, hq⟩ := H
  exact ev_calls ht e hl hkd hst hn hw he (kk x M1 h1 D1 hq)
end ER
/-! the seven States -/
def St (S : Nat) : Prop := S = 1 ∨ S = 10 ∨ S = 19 ∨ S = 37 ∨ S = 46 ∨ S = 55 ∨ S = 64
theorem St.lt {S : Nat} (h : St S) {j : Nat} (hj : j < 9) : S + j < 73 := by unfold St at h; omega
theorem St.lt0 {S : Nat} (h : St S) : S < 73 := h.lt (j := 0) (by decide)
theorem St.sh {S : Nat} (h : St S) : SH S = (0, 2) := by rcases h with rfl | rfl | rfl | rfl | rfl | rfl | rfl <;> rfl
theorem St.n28 {S : Nat} (h : St S) : S ≠ 28 := by unfold St at h; omega
theorem St.a1 {S : Nat} (h : St S) : SH (S + 1) = (1, 16) := by rcases h with rfl | rfl | rfl | rfl | rfl | rfl | rfl <;> rfl
theorem St.p7 {S : Nat} (h : St S) : PF S 7 = some (S + 1) := by rcases h with rfl | rfl | rfl | rfl | rfl | rfl | rfl <;> rfl
theorem St.a2 {S : Nat} (h : St S) : SH (S + 2) = (1, 16) := by rcases h with rfl | rfl | rfl | rfl | rfl | rfl | rfl <;> rfl
theorem St.p8 {S : Nat} (h : St S) : PF S 8 = some (S + 2) := by rcases h with rfl | rfl | rfl | rfl | rfl | rfl | rfl <;> rfl
theorem St.a3 {S : Nat} (h : St S) : SH (S + 3) = (1, 16) := by rcases h with rfl | rfl | rfl | rfl | rfl | rfl | rfl <;> rfl
theorem St.p9 {S : Nat} (h : St S) : PF S 9 = some (S + 3) := by rcases h with rfl | rfl | rfl | rfl | rfl | rfl | rfl <;> rfl
theorem St.a4 {S : Nat} (h : St S) : SH (S + 4) = (1, 16) := by rcases h with rfl | rfl | rfl | rfl | rfl | rfl | rfl <;> rfl
theorem St.p10 {S : Nat} (h : St S) : PF S 10 = some (S + 4) := by rcases h with rfl | rfl | rfl | rfl | rfl | rfl | rfl <;> rfl
theorem St.a5 {S : Nat} (h : St S) : SH (S + 5) = (1, 16) := by rcases h with rfl | rfl | rfl | rfl | rfl | rfl | rfl <;> rfl
theorem St.p11 {S : Nat} (h : St S) : PF S 11 = some (S + 5) := by rcases h with rfl | rfl | rfl | rfl | rfl | rfl | rfl <;> rfl
theorem St.a6 {S : Nat} (h : St S) : SH (S + 6) = (1, 16) := by rcases h with rfl | rfl | rfl | rfl | rfl | rfl | rfl <;> rfl
theorem St.p12 {S : Nat} (h : St S) : PF S 12 = some (S + 6) := by rcases h with rfl | rfl | rfl | rfl | rfl | rfl | rfl <;> rfl
theorem St.a7 {S : Nat} (h : St S) : SH (S + 7) = (1, 12) := by rcases h with rfl | rfl | rfl | rfl | rfl | rfl | rfl <;> rfl
theorem St.p13 {S : Nat} (h : St S) : PF S 13 = some (S + 7) := by rcases h with rfl | rfl | rfl | rfl | rfl | rfl | rfl <;> rfl
theorem St.a8 {S : Nat} (h : St S) : SH (S + 8) = (1, 12) := by rcases h with rfl | rfl | rfl | rfl | rfl | rfl | rfl <;> rfl
theorem St.p14 {S : Nat} (h : St S) : PF S 14 = some (S + 8) := by rcases h with rfl | rfl | rfl | rfl | rfl | rfl | rfl <;> rfl

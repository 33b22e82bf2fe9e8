/-! THE INTERPRETER: an abstract memory, one step of a method's code as a predicate, calls as a relation -/
/-- how many cells there are; the ints, the references, the doubles by cell and place -/
abbrev Mm : Type := Nat × (Nat → Nat → Int32) × (Nat → Nat → Option Nat) × (Nat → Nat → UInt64)
def up2 {α : Type} (M : Nat → Nat → α) (c k : Nat) (x : α) : Nat → Nat → α := fun a j => if a = c ∧ j = k then x else M a j
def cp2 {α : Type} (M : Nat → Nat → α) (c0 sp c1 dp n : Nat) : Nat → Nat → α := fun a j => if a = c1 ∧ dp ≤ j ∧ j < dp + n then M c0 (sp + (j - dp)) else M a j
def rw2 {α : Type} (M : Nat → Nat → α) (c : Nat) (f : Nat → α) : Nat → Nat → α := fun a => if a = c then f else M a
theorem up2_row {α : Type} (M : Nat → Nat → α) (c k : Nat) (x : α) : up2 M c k x c = fun j => if j = k then x else M c j := by
  funext j; simp [up2]
theorem up2_ne {α : Type} (M : Nat → Nat → α) {a c : Nat} (k : Nat) (x : α) (h : a ≠ c) : up2 M c k x a = M a := by
  funext j; simp [up2, h]
theorem rw2_row {α : Type} (M : Nat → Nat → α) (c : Nat) (f : Nat → α) : rw2 M c f c = f := by simp [rw2]
theorem rw2_ne {α : Type} (M : Nat → Nat → α) {a c : Nat} (f : Nat → α) (h : a ≠ c) : rw2 M c f a = M a := by simp [rw2, h]
/-- what the cells are, in the order in which they are made: (0, class), (1, n) ints, (2, n) chars, (3, n) booleans, (4, n) doubles, (5, n) States -/
def SHS : List (Nat × Nat) := [(0, 2), (1, 16), (1, 16), (1, 16), (1, 16), (1, 16), (1, 16), (1, 12), (1, 12)]
def SHL : List (Nat × Nat) := (0, 3) :: (SHS ++ (SHS ++ (SHS ++ ([(5, 4), (0, 1), (1, 16), (0, 0), (2, 60), (1, 21), (1, 21), (1, 21), (1, 21)] ++ (SHS ++ (SHS ++ (SHS ++ SHS)))))))
def SH (c : Nat) : Nat × Nat := SHL.getD c (9, 0)
def tyOf (ci k : Nat) : FieldType := match ci with
  | 0 => tyX0 k
  | 1 => tyX1 k
  | 2 => tyX2 k
  | _ => tyX3 k
def nf (ci : Nat) : Nat := match vwCl[ci]? with
  | some r => r.2.2
  | none => 0
/-- 0 an int, 1 a boolean, 2 a reference -/
def fkd (ci k : Nat) : Nat := match tyOf ci k with
  | .int => 0
  | .boolean => 1
  | .object _ => 2
  | .array _ => 2
  | _ => 3
def fin (ci k : Nat) : Bool := match vwCl[ci]? with
  | some r => (r.2.1 k).2.2.2
  | none => false
def szc (c : Nat) : Nat := match SH c with
  | (0, ci) => nf ci
  | (_, n) => n
def SZ (n : Nat) : Nat := ((List.range n).map szc).sum
def vrf (r : Option Nat) : Value := match r with
  | none => .null
  | some c => .ref c
def fv (σ : Mm) (c ci k : Nat) : Value := match fkd ci k with
  | 2 => vrf (σ.2.2.1 c k)
  | _ => .int (σ.2.1 c k)
/-- a value of the interpreter as the machine has it: cell i at B + i, the script (written as a return address) at b -/
def vm (B b : Nat) (v : Value) : Value := match v with
  | .ref i => .ref (B + i)
  | .retAddr _ => .ref b
  | v => v
def ent (B b : Nat) (dA : Nat → ClassId) (σ : Mm) (c : Nat) : va_E := match SH c with
  | (0, ci) => .inr (ci, (List.range (nf ci)).map (fun k => vm B b (fv σ c ci k)))
  | (4, n) => .inl (dA 4, n, .inr (.inr (.inr (.inl (σ.2.2.2 c)))))
  | (5, n) => .inl (dA 5, n, .inr (.inr (.inr (.inr (fun j => (σ.2.2.1 c j).map (B + ·))))))
  | (t, n) => .inl (dA t, n, .inl (σ.2.1 c))
def wd (B b : Nat) (dA : Nat → ClassId) (σ : Mm) : va_W := (List.range σ.1).map (fun c => (B + c, ent B b dA σ c))
abbrev TYS (dA : Nat → ClassId) : List (ClassId × FieldType) := [(dA 1, .int), (dA 2, .char), (dA 5, .object RX2)]
/-- the words that do not pass a call by themselves -/
def NST : List Cond := (List.range 8).flatMap (fun own => ((LK own).filter (fun e => e.2.1 == 3 || e.2.1 == 4)).map (fun e => Cond.methodLinkNest (CN own) e.1 (mnm e.2.2) RX3))
def KK (dC : Nat → ClassId) (dI : Nat → Nat → Nat) (dA : Nat → ClassId) (U : State) : Prop := va_K (dC, dI) vwCl (TYS dA) U ∧ va_AO RX2 U ∧ ∀ w ∈ NST, va_Nw w U
def WS : List Cond := lw_tbl.filter goodWord
/-- the locals: pairs of a place and what lies there -/
abbrev Lc : Type := List (Nat × Value)
def lk (L : Lc) (i : Nat) : Option Value := match L with
  | [] => none
  | q :: r => if q.1 = i then some q.2 else lk r i
def st1 (L : Lc) (i : Nat) (v : Value) : Lc := (i, v) :: L.filter (fun q => !(q.1 == i) && !(q.1 + 1 == i && q.2.category == 2))
def st2 (L : Lc) (i : Nat) (v : Value) : Lc := (i, v) :: L.filter (fun q => !(q.1 == i) && (!(q.1 == i + 1) && !(q.1 + 1 == i && q.2.category == 2)))
def lvm (B b : Nat) (L : Lc) : Lc := L.map (fun q => (q.1, vm B b q.2))
def stw (r : List Value) : Nat := (r.map fun v => v.category).sum
def isR (v : Value) : Bool := match v with
  | .ref _ => true
  | .retAddr _ => true
  | _ => false
def cnd (c : ClassFile.Cond) (x y : Int32) : Prop := match c with
  | .eq => x = y
  | .ne => ¬ x = y
  | .lt => x < y
  | .ge => y ≤ x
  | .gt => y < x
  | .le => x ≤ y
/-- a jump's target -/
def tg (pc : Nat) (off : Int) : Nat := ((pc : Int) + off).toNat
def tgOk (pc : Nat) (off : Int) : Prop := (pc : Int) + off = ((tg pc off : Nat) : Int)
def retI (y : Nat) (x : Int32) : Prop := mrt y = some .int ∨ (mrt y = some .boolean ∧ (x = 0 ∨ x = 1))
def setI (σ : Mm) (c k : Nat) (x : Int32) : Mm := (σ.1, up2 σ.2.1 c k x, σ.2.2.1, σ.2.2.2)
def setP (σ : Mm) (c k : Nat) (x : Option Nat) : Mm := (σ.1, σ.2.1, up2 σ.2.2.1 c k x, σ.2.2.2)
def setD (σ : Mm) (c k : Nat) (x : UInt64) : Mm := (σ.1, σ.2.1, σ.2.2.1, up2 σ.2.2.2 c k x)
def cpyI (σ : Mm) (c0 sp c1 dp n : Nat) : Mm := (σ.1, cp2 σ.2.1 c0 sp c1 dp n, σ.2.2.1, σ.2.2.2)
def alc (σ : Mm) : Mm := (σ.1 + 1, rw2 σ.2.1 σ.1 (fun _ => 0), rw2 σ.2.2.1 σ.1 (fun _ => none), rw2 σ.2.2.2 σ.1 (fun _ => 0))
def atk (t : ArrayType) : Nat := match t with
  | .int => 1
  | .char => 2
  | _ => 8
abbrev Cal : Type := Nat → List Value → Mm → Option Value → Mm → Prop
abbrev Kn : Type := Nat → Lc → List Value → Mm → Prop
/-- one instruction of method y: dd frames may stand above this one, NT cells may stand at the end; scr: the script, where the method may read it -/
def stepP (dd NT : Nat) (call : Cal) (scr : Option (Nat × (Nat → Int32))) (y : Nat) (K : Kn) (Q : Option Value → Mm → Prop) (pc : Nat) (L : Lc) (st : List Value) (σ : Mm) : Prop :=
  match TB y pc with
  | none => False
  | some (i, n) => match i with
    | .aload_n k => n = 1 ∧ ∃ v, lk L k = some v ∧ isR v = true ∧ K (pc + 1) L (v :: st) σ
    | .iload_n k => n = 1 ∧ ∃ x, lk L k = some (.int x) ∧ K (pc + 1) L (.int x :: st) σ
    | .iload k => n = 2 ∧ ∃ x, lk L k = some (.int x) ∧ K (pc + 2) L (.int x :: st) σ
    | .fload_n k => n = 1 ∧ ∃ x, lk L k = some (.float x) ∧ K (pc + 1) L (.float x :: st) σ
    | .dload_n k => n = 1 ∧ ∃ x, lk L k = some (.double x) ∧ K (pc + 1) L (.double x :: st) σ
    | .dload k => n = 2 ∧ ∃ x, lk L k = some (.double x) ∧ K (pc + 2) L (.double x :: st) σ
    | .istore_n k => n = 1 ∧ (k : Nat) < mml y ∧ ∃ x r, st = .int x :: r ∧ K (pc + 1) (st1 L k (.int x)) r σ
    | .istore k => n = 2 ∧ k < mml y ∧ ∃ x r, st = .int x :: r ∧ K (pc + 2) (st1 L k (.int x)) r σ
    | .astore_n k => n = 1 ∧ (k : Nat) < mml y ∧ ∃ x r, st = .ref x :: r ∧ K (pc + 1) (st1 L k (.ref x)) r σ
    | .fstore_n k => n = 1 ∧ (k : Nat) < mml y ∧ ∃ x r, st = .float x :: r ∧ K (pc + 1) (st1 L k (.float x)) r σ
    | .dstore k => n = 2 ∧ k + 1 < mml y ∧ ∃ x r, st = .double x :: r ∧ K (pc + 2) (st2 L k (.double x)) r σ
    | .iinc k v => n = 3 ∧ k < mml y ∧ ∃ x, lk L k = some (.int x) ∧ K (pc + 3) (st1 L k (.int (x + Int32.ofInt v))) st σ
    | .iconst v => n = 1 ∧ K (pc + 1) L (.int (Int32.ofInt v) :: st) σ
    | .bipush v => n = 2 ∧ K (pc + 2) L (.int (Int8.ofInt v).toInt32 :: st) σ
    | .sipush v => n = 3 ∧ K (pc + 3) L (.int (Int16.ofInt v).toInt32 :: st) σ
    | .ldc ix => n = 2 ∧ ((∃ x, cst (mown y) ix = some (.int x) ∧ K (pc + 2) L (.int x :: st) σ) ∨ (∃ x, cst (mown y) ix = some (.float x) ∧ K (pc + 2) L (.float x :: st) σ))
    | .ldc_w ix => n = 3 ∧ ∃ x, cst (mown y) ix = some (.int x) ∧ K (pc + 3) L (.int x :: st) σ
    | .ldc2_w ix => n = 3 ∧ ∃ x, cst (mown y) ix = some (.double x) ∧ K (pc + 3) L (.double x :: st) σ
    | .fconst k => n = 1 ∧ ((k = 0 ∧ K (pc + 1) L (.float FP.fconst0 :: st) σ) ∨ (k = 1 ∧ K (pc + 1) L (.float FP.fconst1 :: st) σ) ∨ (k = 2 ∧ K (pc + 1) L (.float FP.fconst2 :: st) σ))
    | .dconst k => n = 1 ∧ ((k = 0 ∧ K (pc + 1) L (.double FP.dconst0 :: st) σ) ∨ (k = 1 ∧ K (pc + 1) L (.double FP.dconst1 :: st) σ))
    | .iadd => n = 1 ∧ ∃ a b r, st = .int b :: .int a :: r ∧ K (pc + 1) L (.int (a + b) :: r) σ
    | .isub => n = 1 ∧ ∃ a b r, st = .int b :: .int a :: r ∧ K (pc + 1) L (.int (a - b) :: r) σ
    | .imul => n = 1 ∧ ∃ a b r, st = .int b :: .int a :: r ∧ K (pc + 1) L (.int (a * b) :: r) σ
    | .irem => n = 1 ∧ ∃ a b r, st = .int b :: .int a :: r ∧ b ≠ 0 ∧ K (pc + 1) L (.int (a - a / b * b) :: r) σ
    | .iand => n = 1 ∧ ∃ a b r, st = .int b :: .int a :: r ∧ K (pc + 1) L (.int (a &&& b) :: r) σ
    | .ior => n = 1 ∧ ∃ a b r, st = .int b :: .int a :: r ∧ K (pc + 1) L (.int (a ||| b) :: r) σ
    | .ixor => n = 1 ∧ ∃ a b r, st = .int b :: .int a :: r ∧ K (pc + 1) L (.int (a ^^^ b) :: r) σ
    | .ishl => n = 1 ∧ ∃ a b r, st = .int b :: .int a :: r ∧ K (pc + 1) L (.int (a <<< (b &&& 31)) :: r) σ
    | .ishr => n = 1 ∧ ∃ a b r, st = .int b :: .int a :: r ∧ K (pc + 1) L (.int (a >>> (b &&& 31)) :: r) σ
    | .iushr => n = 1 ∧ ∃ a b r, st = .int b :: .int a :: r ∧ K (pc + 1) L (.int (a.toUInt32 >>> (b.toUInt32 &&& Int32.toUInt32 31)).toInt32 :: r) σ
    | .i2d => n = 1 ∧ ∃ a r, st = .int a :: r ∧ K (pc + 1) L (.double (FP.i2d a) :: r) σ
    | .f2i => n = 1 ∧ ∃ a r, st = .float a :: r ∧ K (pc + 1) L (.int (FP.f2i a) :: r) σ
    | .d2f => n = 1 ∧ ∃ a r, st = .double a :: r ∧ vf_n32 (FP.d2f a) ∧ K (pc + 1) L (.float (FP.d2f a) :: r) σ
    | .dadd => n = 1 ∧ ∃ a b r, st = .double b :: .double a :: r ∧ vf_n64 (FP.dadd a b) ∧ K (pc + 1) L (.double (FP.dadd a b) :: r) σ
    | .ddiv => n = 1 ∧ ∃ a b r, st = .double b :: .double a :: r ∧ vf_n64 (FP.ddiv a b) ∧ K (pc + 1) L (.double (FP.ddiv a b) :: r) σ
    | .fsub => n = 1 ∧ ∃ a b r, st = .float b :: .float a :: r ∧ vf_n32 (FP.fsub a b) ∧ K (pc + 1) L (.float (FP.fsub a b) :: r) σ
    | .fmul => n = 1 ∧ ∃ a b r, st = .float b :: .float a :: r ∧ vf_n32 (FP.fmul a b) ∧ K (pc + 1) L (.float (FP.fmul a b) :: r) σ
    | .fdiv => n = 1 ∧ ∃ a b r, st = .float b :: .float a :: r ∧ vf_n32 (FP.fdiv a b) ∧ K (pc + 1) L (.float (FP.fdiv a b) :: r) σ
    | .fcmp op => n = 1 ∧ ∃ a b r, st = .float b :: .float a :: r ∧ K (pc + 1) L (.int (Op.cmpValue (FP.fcmp a b) op) :: r) σ
    | .dcmp op => n = 1 ∧ ∃ a b r, st = .double b :: .double a :: r ∧ K (pc + 1) L (.int (Op.cmpValue (FP.dcmp a b) op) :: r) σ
    | .dup => n = 1 ∧ ∃ v r, st = v :: r ∧ v.category = 1 ∧ K (pc + 1) L (v :: v :: r) σ
    | .dup2 => n = 1 ∧ ∃ v w r, st = v :: w :: r ∧ v.category = 1 ∧ w.category = 1 ∧ K (pc + 1) L (v :: w :: v :: w :: r) σ
    | .ifCond q off => n = 3 ∧ tgOk pc off ∧ ∃ x r, st = .int x :: r ∧ (cnd q x 0 → K (tg pc off) L r σ) ∧ (¬ cnd q x 0 → K (pc + 3) L r σ)
    | .if_icmp q off => n = 3 ∧ tgOk pc off ∧ ∃ a b r, st = .int b :: .int a :: r ∧ (cnd q a b → K (tg pc off) L r σ) ∧ (¬ cnd q a b → K (pc + 3) L r σ)
    | .ifnull off => n = 3 ∧ ∃ c r, st = .ref c :: r ∧ K (pc + 3) L r σ
    | .goto off => n = 3 ∧ tgOk pc off ∧ K (tg pc off) L st σ
    | .tableswitch d lo hi offs => ∃ x r, st = .int x :: r ∧ ((x.toInt < lo ∨ hi < x.toInt) → tgOk pc d ∧ K (tg pc d) L r σ) ∧ (¬ (x.toInt < lo ∨ hi < x.toInt) → ∃ off, offs[(x.toInt - lo).toNat]? = some off ∧ tgOk pc off ∧ K (tg pc off) L r σ)
    | .lookupswitch d ps => (ps.toList.zip (ps.toList.drop 1)).all (fun (a, next) => a.1 < next.1) = true ∧ ∃ x r, st = .int x :: r ∧ tgOk pc (Op.lookupswitch.offset ps.toList d x.toInt) ∧ K (tg pc (Op.lookupswitch.offset ps.toList d x.toInt)) L r σ
    | .ireturn => n = 1 ∧ ∃ x, st = [.int x] ∧ retI y x ∧ Q (some (.int x)) σ
    | .dreturn => n = 1 ∧ ∃ x, st = [.double x] ∧ mrt y = some .double ∧ Q (some (.double x)) σ
    | .return_ => n = 1 ∧ st = [] ∧ mrt y = none ∧ Q none σ
    | .getfield ix => n = 3 ∧ ∃ c r ci k, st = .ref c :: r ∧ fld (mown y) ix = some (ci, k) ∧ c < σ.1 ∧ SH c = (0, ci) ∧ k < nf ci ∧ K (pc + 3) L (fv σ c ci k :: r) σ
    | .putfield ix => n = 3 ∧ ∃ v c r ci k, st = v :: .ref c :: r ∧ fld (mown y) ix = some (ci, k) ∧ c < σ.1 ∧ SH c = (0, ci) ∧ k < nf ci ∧ (fin ci k = true → (mnm y).name = "<init>" ∧ mown y = ci) ∧
        ((∃ x, v = .int x ∧ fkd ci k = 0 ∧ K (pc + 3) L r (setI σ c k x)) ∨ (∃ x, v = .int x ∧ fkd ci k = 1 ∧ (x = 0 ∨ x = 1) ∧ K (pc + 3) L r (setI σ c k x)) ∨ (∃ a, v = .ref a ∧ fkd ci k = 2 ∧ K (pc + 3) L r (setP σ c k (some a))))
    | .iaload => n = 1 ∧ ((∃ i c r, st = .int i :: .ref c :: r ∧ c < σ.1 ∧ (SH c).1 = 1 ∧ vp_in i (SH c).2 ∧ K (pc + 1) L (.int (σ.2.1 c i.toNatClampNeg) :: r) σ) ∨ (∃ i a r len xs, st = .int i :: .retAddr a :: r ∧ scr = some (len, xs) ∧ vp_in i len ∧ K (pc + 1) L (.int (xs i.toNatClampNeg) :: r) σ))
    | .arraylength => n = 1 ∧ ∃ a r len xs, st = .retAddr a :: r ∧ scr = some (len, xs) ∧ K (pc + 1) L (.int (Int32.ofNat len) :: r) σ
    | .aaload => n = 1 ∧ ∃ i c r, st = .int i :: .ref c :: r ∧ c < σ.1 ∧ (SH c).1 = 5 ∧ vp_in i (SH c).2 ∧ K (pc + 1) L (vrf (σ.2.2.1 c i.toNatClampNeg) :: r) σ
    | .iastore => n = 1 ∧ ∃ x i c r, st = .int x :: .int i :: .ref c :: r ∧ c < σ.1 ∧ (SH c).1 = 1 ∧ vp_in i (SH c).2 ∧ K (pc + 1) L r (setI σ c i.toNatClampNeg x)
    | .aastore => n = 1 ∧ ∃ a i c r, st = .ref a :: .int i :: .ref c :: r ∧ c < σ.1 ∧ (SH c).1 = 5 ∧ vp_in i (SH c).2 ∧ a < σ.1 ∧ SH a = (0, 2) ∧ K (pc + 1) L r (setP σ c i.toNatClampNeg (some a))
    | .newarray t => n = 2 ∧ ∃ z r, st = .int z :: r ∧ atk t < 8 ∧ SH σ.1 = (atk t, z.toNatClampNeg) ∧ ¬ z < 0 ∧ z.toNatClampNeg ≤ 6000 ∧ σ.1 < NT ∧ K (pc + 2) L (.ref σ.1 :: r) (alc σ)
    | .anewarray ix => n = 3 ∧ ∃ z r, st = .int z :: r ∧ nwc (mown y) ix = some 2 ∧ SH σ.1 = (5, z.toNatClampNeg) ∧ ¬ z < 0 ∧ z.toNatClampNeg ≤ 6000 ∧ σ.1 < NT ∧ K (pc + 3) L (.ref σ.1 :: r) (alc σ)
    | .new ix => n = 3 ∧ ∃ ci, nwc (mown y) ix = some ci ∧ SH σ.1 = (0, ci) ∧ σ.1 < NT ∧ K (pc + 3) L (.ref σ.1 :: st) (alc σ)
    | .invokevirtual ix => n = 3 ∧ ∃ y1 as c r v σ1, lnk (mown y) ix = some (0, y1) ∧ st = as.reverse ++ .ref c :: r ∧ as.length = mna y1 ∧ c < σ.1 ∧ SH c = (0, mown y1) ∧ stw r ≤ 8 ∧ call y1 (.ref c :: as) σ v σ1 ∧ σ1.1 ≤ NT ∧ K (pc + 3) L (v.toList ++ r) σ1
    | .invokestatic ix => n = 3 ∧ ((∃ y1 as r v σ1 kd, lnk (mown y) ix = some (kd, y1) ∧ (kd = 1 ∨ kd = 3) ∧ st = as.reverse ++ r ∧ as.length = mna y1 ∧ stw r ≤ 8 ∧ call y1 as σ v σ1 ∧ σ1.1 ≤ NT ∧ K (pc + 3) L (v.toList ++ r) σ1) ∨
        (∃ z dp c1 sp c0 r, lnk (mown y) ix = some (6, 0) ∧ st = .int z :: .int dp :: .ref c1 :: .int sp :: .ref c0 :: r ∧ stw r ≤ 8 ∧ 1 ≤ dd ∧ c0 < σ.1 ∧ c1 < σ.1 ∧ (SH c0).1 = 1 ∧ (SH c1).1 = 1 ∧ ¬ sp < 0 ∧ ¬ dp < 0 ∧ ¬ z < 0 ∧ sp.toNatClampNeg + z.toNatClampNeg ≤ (SH c0).2 ∧ dp.toNatClampNeg + z.toNatClampNeg ≤ (SH c1).2 ∧ K (pc + 3) L r (cpyI σ c0 sp.toNatClampNeg c1 dp.toNatClampNeg z.toNatClampNeg)) ∨
        (∃ a b r y1, lnk (mown y) ix = some (8, y1) ∧ st = .int b :: .int a :: r ∧ stw r ≤ 8 ∧ 1 ≤ dd ∧ σ.1 ≤ NT ∧ K (pc + 3) L (.int (if a < b then b else a) :: r) σ))
    | .invokespecial ix => n = 3 ∧ ((∃ y1 as c r σ1 kd, lnk (mown y) ix = some (kd, y1) ∧ (kd = 2 ∨ kd = 4) ∧ st = as.reverse ++ .ref c :: r ∧ as.length = mna y1 ∧ stw r ≤ 8 ∧ call y1 (.ref c :: as) σ none σ1 ∧ σ1.1 ≤ NT ∧ K (pc + 3) L r σ1) ∨
        (∃ c r, lnk (mown y) ix = some (5, 0) ∧ st = .ref c :: r ∧ stw r ≤ 8 ∧ 1 ≤ dd ∧ K (pc + 3) L r σ))
    | _ => False
def runP (dd NT : Nat) (call : Cal) (scr : Option (Nat × (Nat → Int32))) (y : Nat) (Q : Option Value → Mm → Prop) : Nat → Kn
  | 0, _, _, _, _ => False
  | n + 1, pc, L, st, σ => stepP dd NT call scr y (runP dd NT call scr y Q n) Q pc L st σ
/-- method y, called with 'as' over σ, answers r and leaves σ1: at most d - 1 frames stand above its own -/
def ExecS (scr : Option (Nat × (Nat → Int32))) : Nat → Cal
  | 0, _, _, _, _, _ => False
  | d + 1, y, as, σ, r, σ1 => σ.1 ≤ σ1.1 ∧ y < yLAW ∧ stw as ≤ mml y ∧ ∃ n, runP d σ1.1 (ExecS scr d) scr y (fun v σ2 => v = r ∧ σ2 = σ1) n 0 (lv_args 0 as) [] σ
/-- a call that reads no script -/
abbrev Exec : Nat → Cal := ExecS none

/-! THE MODEL's methods, 2: sums and sets -/
def fsum (g : Nat → Int32) : Nat → Int32
  | 0 => 0
  | k + 1 => fsum g k + g k
def foru (g : Nat → Int32) : Nat → Int32
  | 0 => 0
  | k + 1 => foru g k ||| g k
section M2
variable {d n : Nat} {M : Im} {h : Hm} {D : Dm} {Q : Int32 → Im → Hm → Dm → Prop}
/-- how many drawers are around x -/
def outs (a : V) : Nat → Int32 → Nat
  | 0, _ => 0
  | n + 1, x => if x = -5 then 0 else 1 + outs a n (fd a x.toNatClampNeg 0)
/-- a holder is wanting -/
def lack1 (n : Nat) (a : V) (k : Nat) : Bool := (fd a k 1 == 2) && decide (nI n ≤ fd a k 2)
def lacks (n : Nat) (a : V) : Nat → Bool
  | 0 => false
  | k + 1 => lacks n a k || lack1 n a k
end M2

/-! THE MODEL's seal -/
section SE
variable {d n : Nat} {M : Im} {h : Hm} {D : Dm} {A : Ab} {v : Int32} {Q : Int32 → Im → Hm → Dm → Prop}
end SE

section
variable {σ : Hp} {a a' b : Ab} {n : Nat} {B : Int} {e : Nat} {d o : Int}
/-- a call that makes an object -/
def LRn (σ : Hp) (n e : Nat) (a' : Ab) (B' code v : Int) (r : Int × Nat × Nat × Hp) : Prop := r.2.1 ≤ n + 4 ∧ LR σ e a' r.2.1 B' code v (r.1, r.2.2.1, r.2.2.2)
end

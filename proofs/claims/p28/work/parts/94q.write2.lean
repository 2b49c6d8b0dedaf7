section
variable {σ : Hp} {a a' b : Ab} {n : Nat} {B : Int} {e : Nat} {t x y m : Int}
/-- what is put may touch this -/
def pcw (σ σ' : Hp) (c : Nat) : Prop := (∀ q : Nat, q < 129 ∨ 169 < q ∨ q = 161 ∨ q = 160 ∨ q = 166 ∨ q = 167 ∨ q = 168 ∨ q = 169 → σ' q = σ q) ∧ σ' 129 46 = σ 129 46 ∧ σ' 129 50 = σ 129 50 ∧ σ 129 38 ≤ σ' 129 38 ∧ σ' 129 38 ≤ σ 129 38 + c
end

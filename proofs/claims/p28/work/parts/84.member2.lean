section
variable {σ : Hp} {a a' b : Ab} {n : Nat} {B : Int} {e : Nat}
theorem Vw_stS {t : Hp} {X : Ab} (V : Vw t X) (row : Int → Int) (c : Int) : Vw (stS t row c.toNat) (plA X row c) := by
  intro q j hq
  by_cases h : q = 145
  · subst h
    have e : t 145 = X 145 := funext fun i => V 145 i (by unfold vwP; omega)
    unfold stS plA
    rw [if_pos rfl, if_pos rfl, e]
  · rw [st_q h, plA_q h]; exact V q j hq
end

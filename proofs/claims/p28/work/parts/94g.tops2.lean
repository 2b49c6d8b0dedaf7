section
variable {σ : Hp} {a a' b : Ab} {n : Nat} {B : Int} {e : Nat} {d m : Int}
theorem m_wD {y : Int} (hd : inD d) {s : Hp} (V : Vw s a) : (if d ≠ 0 then grd (0 ≤ (0 : Int) ∧ (0 : Int) < 3) <| some (s 163 0) else some y : Option (Int)) = some (wD d y (chC a)).1 ∧ (if d ≠ 1 then grd (0 ≤ (1 : Int) ∧ (1 : Int) < 3) <| some (s 163 1) else some y : Option (Int)) = some (wD d y (chC a)).2.1 ∧ (if d ≠ 2 then grd (0 ≤ (2 : Int) ∧ (2 : Int) < 3) <| some (s 163 2) else some y : Option (Int)) = some (wD d y (chC a)).2.2 := by
  have e163 : ∀ k : Int, s 163 k = a.chos k := fun k => V 163 k (by unfold vwP; omega)
  simp only [e163]
  unfold wD withD chC
  rcases hd with rfl | rfl | rfl <;> simp [grd]
end

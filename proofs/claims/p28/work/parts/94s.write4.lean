section
variable {σ : Hp} {a a' b : Ab} {n : Nat} {B : Int} {e : Nat} {t x y m v h : Int}
/-- only what is scratch differs -/
def scr (σ s : Hp) : Prop := ∀ q : Nat, q < 167 ∨ 169 < q → s q = σ q
theorem Vw_scr {s : Hp} (V : Vw σ a) (H : scr σ s) : Vw s a := fun q j hq => by
  have : q < 167 := by unfold vwP at hq; omega
  rw [H q (by omega)]; exact V q j hq
theorem ior_1 {z : Int} (hz : 0 ≤ z ∧ z ≤ 1) : ior 1 z ≠ 0 := by
  have : z = 0 ∨ z = 1 := by omega
  rcases this with q | q <;> rw [q]
  · rw [ior_00.2.2.1]; omega
  · rw [ior_00.2.2.2]; omega
/-- what is thrown, where the class's own cells stand -/
theorem L_er3 {code : Nat} (W : WFA a) (I : IC σ a n B) (hc : code = 3) {x' : Option (Nat × Int × Hp)} (C : Okk x' fun r => r.1 = code ∧ wsc σ r.2.2) : Okk (x'.bind fun v1 => if v1.1 = 0 then grd (0 ≤ (0 : Int) ∧ (0 : Int) < 1) <| some (0, e, (hset v1.2.2 170 0 v1.2.1)) else if v1.1 = 1 then some (1, (e + 1), v1.2.2) else if v1.1 = 2 then some (2, (e + 1), v1.2.2) else if v1.1 = 3 then some (3, (e + 1), v1.2.2) else none) (LR σ e a n (B + 60) 3 0) := by
  refine ok_call C ?_
  rintro r ⟨r1, r2⟩
  rw [if_neg (by omega), if_neg (by omega), if_neg (by omega), if_pos (by omega)]
  exact ok_some ⟨rfl, fun g => absurd g (by omega), Nat.le_refl _, fun q q1 q2 => r2.1 q (by omega), IC_m W (fun _ _ => rfl) (by omega) (IC_w W I r2)⟩
end

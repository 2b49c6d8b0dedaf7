section
variable {σ : Hp} {a a' b : Ab} {n : Nat} {B : Int} {e : Nat}
/-- the member of dimension k that the reference asks for -/
theorem m_crC {d1 d2 i j : Int} (h1 : inD d1) (h2 : inD d2) (hne : d1 ≠ d2) {s : Hp} (V : Vw s a) : (if d1 ≠ 0 then if d2 ≠ 0 then grd (0 ≤ (0 : Int) ∧ (0 : Int) < 3) <| some (s 163 0) else some (s 164 ((12 * d2) + j)) else some (s 164 ((12 * d1) + i)) : Option (Int)) = some (crC a d1 d2 i j).1 ∧ (if d1 ≠ 1 then if d2 ≠ 1 then grd (0 ≤ (1 : Int) ∧ (1 : Int) < 3) <| some (s 163 1) else some (s 164 ((12 * d2) + j)) else some (s 164 ((12 * d1) + i)) : Option (Int)) = some (crC a d1 d2 i j).2.1 ∧ (if d1 ≠ 2 then if d2 ≠ 2 then grd (0 ≤ (2 : Int) ∧ (2 : Int) < 3) <| some (s 163 2) else some (s 164 ((12 * d2) + j)) else some (s 164 ((12 * d1) + i)) : Option (Int)) = some (crC a d1 d2 i j).2.2 := by
  have e163 : ∀ k : Int, s 163 k = a.chos k := fun k => V 163 k (by unfold vwP; omega)
  have e164 : ∀ k : Int, s 164 k = a.pick k := fun k => V 164 k (by unfold vwP; omega)
  simp only [e163, e164]
  unfold crC wD withD chC
  rcases h1 with rfl | rfl | rfl <;> rcases h2 with rfl | rfl | rfl <;> first | (exact absurd rfl hne) | (simp [grd])
theorem MS_0 {σ' : Hp} (V1 : Vw σ' a) (VV1 : ICV σ' a (B + 1)) : MS (hset σ' 129 50 0) a := by
  have v0 : 1 ≤ σ' 129 38 ∧ σ' 129 38 ≤ B + 1 ∧ ∀ c : Int, 0 ≤ c → c < 13824 → σ' 161 c ≤ σ' 129 38 := VV1 0
  exact MS_c (σ := hset σ' 129 50 0) ⟨Vw_50 V1 0, by rw [hset_ne (by omega), hs_nj (by omega)]; exact v0.2.2, ICV_50 VV1 0 (Int.le_refl _) 1⟩ (fun _ _ _ => rfl) (fun _ _ => rfl)
end

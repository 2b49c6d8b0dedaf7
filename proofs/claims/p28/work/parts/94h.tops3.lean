section
variable {σ : Hp} {a a' b : Ab} {n : Nat} {B : Int} {e : Nat} {d m : Int}
/-- the best of those of P from k on -/
def bst (v : Int → Int) (P : Int → Prop) (k y x : Int) : Prop := (y = -1 ∧ ∀ z : Int, k ≤ z → z < 12 → ¬ P z) ∨ (k ≤ y ∧ y < 12 ∧ P y ∧ x = v y ∧ ∀ z : Int, k ≤ z → z < 12 → P z → z ≠ y → bef v y z)
theorem bst_s {v : Int → Int} {P : Int → Prop} {k y x : Int} (h : bst v P (k + 1) y x) (hn : ¬ P k) : bst v P k y x := by
  rcases h with h | h
  · refine Or.inl ⟨h.1, fun z z0 z1 => ?_⟩
    by_cases q : z = k
    · rw [q]; exact hn
    · exact h.2 z (by omega) z1
  · refine Or.inr ⟨by omega, h.2.1, h.2.2.1, h.2.2.2.1, fun z z0 z1 hz hne => ?_⟩
    by_cases q : z = k
    · rw [q] at hz; exact absurd hz hn
    · exact h.2.2.2.2 z (by omega) z1 hz hne
theorem bst_k {v : Int → Int} {P : Int → Prop} {k y x : Int} (k0 : 0 ≤ k) (k1 : k < 12) (h : bst v P (k + 1) y x) (hp : P k) (hv : y = -1 ∨ x ≤ v k) : bst v P k k (v k) := by
  refine Or.inr ⟨Int.le_refl _, k1, hp, rfl, fun z z0 z1 hz hne => ?_⟩
  rcases h with h | h
  · exact absurd hz (h.2 z (by omega) z1)
  · have hx : x ≤ v k := by
      rcases hv with q | q
      · exact absurd q (by omega)
      · exact q
    unfold bef
    by_cases q : z = y
    · rw [q]; by_cases w : v y < v k
      · exact Or.inl w
      · exact Or.inr ⟨by omega, by omega⟩
    · have g := h.2.2.2.2 z (by omega) z1 hz q
      unfold bef at g
      by_cases w : v z < v k
      · exact Or.inl w
      · exact Or.inr ⟨by omega, by omega⟩
theorem bst_n {v : Int → Int} {P : Int → Prop} {k y x : Int} (h : bst v P (k + 1) y x) (hy : 0 ≤ y) (hv : v k < x) : bst v P k y x := by
  rcases h with h | h
  · omega
  · refine Or.inr ⟨by omega, h.2.1, h.2.2.1, h.2.2.2.1, fun z z0 z1 hz hne => ?_⟩
    by_cases q : z = k
    · rw [q]; exact Or.inl (by omega)
    · exact h.2.2.2.2 z (by omega) z1 hz hne
end

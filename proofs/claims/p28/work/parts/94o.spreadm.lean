/-! ===== the reference spreads ===== -/
section
variable {σ : Hp} {sp own : Int → Int} {N : Nat} {v : Int}
def gch2 (σ s : Hp) : Prop := ∀ q : Nat, q ≠ 168 → q ≠ 169 → s q = σ q
def spM (σ : Hp) (sp own : Int → Int) (N : Nat) (v : Int) : Prop := (∀ i : Int, 0 ≤ i → i < N → σ 167 i = sp i ∧ 0 ≤ sp i ∧ sp i < 50 ∧ σ 154 (sp i) = own i) ∧ (0 < N ∧ N ≤ 50) ∧ (0 ≤ v ∧ v ≤ 1000000) ∧ ∀ i : Int, 0 ≤ i → i < N → -1000000 ≤ own i ∧ own i ≤ 1000000
theorem spM_s {s : Hp} (H : spM σ sp own N v) (E : gch2 σ s) : spM s sp own N v := by
  obtain ⟨h0, h1⟩ := H
  exact ⟨by rw [E 167 (by omega) (by omega), E 154 (by omega) (by omega)]; exact h0, h1⟩
end

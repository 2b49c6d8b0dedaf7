/-! ===== the reference stands the members of time ===== -/
section
variable {σ : Hp} {a a' b : Ab} {n : Nat} {B : Int} {e : Nat} {d : Int}
/-- what standing reads -/
def tmv (σ : Hp) (a : Ab) : Prop := σ 130 0 = a.many 0 ∧ ∀ j : Int, 0 ≤ j → j < 12 → σ 131 j = a.kind j ∧ σ 132 j = a.par j
def mtc (a : Ab) (q k : Int) : Prop := 0 < k ∧ isP a 0 k ∧ a.par k = q
theorem aftF_c (a : Ab) (q f : Int) : ∀ k : Nat, (aftF a q f k = -1 ∧ ∀ j : Int, f ≤ j → 0 ≤ j → j < k → ¬ mtc a q j) ∨ (f ≤ aftF a q f k ∧ aftF a q f k < k ∧ mtc a q (aftF a q f k) ∧ ∀ j : Int, f ≤ j → 0 ≤ j → j < aftF a q f k → ¬ mtc a q j)
  | 0 => Or.inl ⟨rfl, fun j _ j0 j1 => by omega⟩
  | k + 1 => by
    have e : aftF a q f (k + 1) = if aftF a q f k = -1 ∧ f ≤ k ∧ 0 < (k : Int) ∧ isP a 0 k ∧ a.par k = q then (k : Int) else aftF a q f k := rfl
    rw [e]
    rcases aftF_c a q f k with g | g
    · by_cases h : f ≤ (k : Int) ∧ mtc a q k
      · rw [if_pos ⟨g.1, h.1, h.2⟩]
        exact Or.inr ⟨h.1, by omega, h.2, fun j j0 j1 j2 => g.2 j j0 j1 j2⟩
      · rw [if_neg (fun z => h ⟨z.2.1, z.2.2⟩)]
        refine Or.inl ⟨g.1, fun j j0 j1 j2 => ?_⟩
        by_cases z : j = k
        · rw [z] at j0 ⊢; exact fun w => h ⟨j0, w⟩
        · exact g.2 j j0 j1 (by omega)
    · have := g.2.2.1.1
      rw [if_neg (fun z => by have := z.1; omega)]
      exact Or.inr ⟨g.1, by omega, g.2.2.1, g.2.2.2⟩
theorem aft_u (W : WT a) {q f r : Int} (h : (r = -1 ∧ ∀ j : Int, f ≤ j → 0 ≤ j → j < a.many 0 → ¬ mtc a q j) ∨ (f ≤ r ∧ r < a.many 0 ∧ mtc a q r ∧ ∀ j : Int, f ≤ j → 0 ≤ j → j < r → ¬ mtc a q j)) : r = aft a q f := by
  have w := W.1
  have en : ((a.many 0).toNat : Int) = a.many 0 := by omega
  have c := aftF_c a q f (a.many 0).toNat
  unfold aft
  rw [en] at c
  generalize aftF a q f (a.many 0).toNat = t at c ⊢
  rcases h with h | h <;> rcases c with c | c
  · rw [h.1, c.1]
  · have := c.2.2.1.1; exact absurd c.2.2.1 (h.2 t c.1 (by omega) c.2.1)
  · have := h.2.2.1.1; exact absurd h.2.2.1 (c.2 r h.1 (by omega) h.2.1)
  · have h0 := h.2.2.1.1
    have c0 := c.2.2.1.1
    rcases Int.lt_trichotomy r t with g | g | g
    · exact absurd h.2.2.1 (c.2.2.2 r h.1 (by omega) g)
    · exact g
    · exact absurd c.2.2.1 (h.2.2.2 t c.1 (by omega) g)
def stS (σ : Hp) (row : Int → Int) (k : Nat) : Hp := fun q j => if q = 145 then plF row (σ 145) k j else σ q j
theorem st_q {row : Int → Int} {k q : Nat} (h : q ≠ 145) : stS σ row k q = σ q := by funext j; unfold stS; rw [if_neg h]
theorem st_0 (row : Int → Int) : stS σ row 0 = σ := by
  funext q j; unfold stS
  by_cases h : q = 145
  · rw [if_pos h, h]; rfl
  · rw [if_neg h]
theorem st_s (row : Int → Int) (k : Nat) : hset (stS σ row k) 145 (row k) k = stS σ row (k + 1) := by
  funext q j
  by_cases h : q = 145
  · subst h
    rw [hs_if]
    unfold stS
    rw [if_pos rfl, if_pos rfl]
    rfl
  · rw [hset_ne h, st_q h, st_q h]
end

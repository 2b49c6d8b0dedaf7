theorem law_all (hP : PICK) (hW : WRITE) {q : Nat × (Nat → Int32)} (hq : q.1 ≤ 3584) : ∃ (n e : Nat) (σ : Hp), f_L_law q zBegin 171 0 = some (1, n, e, σ) ∧ n ≤ 171 + 4 * 512 ∧ e ≤ 512 := by
  have h := law_loop hP hW hq zFuel 0 0 zBegin abB 171 0 rfl (by omega) (by unfold zFuel; omega) J_begin (by omega) (by omega)
  obtain ⟨⟨c, n, e, σ⟩, hr, r1, r2, r3⟩ := h
  exact ⟨n, e, σ, by unfold f_L_law; rw [hr, show c = 1 from r1], r2, r3⟩

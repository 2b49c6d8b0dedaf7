theorem pick_PICK : PICK := fun _ _ _ _ _ H hB d k p m t => op_pick H hB d k p m t
theorem write_WRITE : WRITE := fun _ _ _ _ _ H hB t x y m v h => op_write H hB t x y m v h
/-- on every script the law's function ends, and its answer is 1 -/
theorem law_true {q : Nat × (Nat → Int32)} (hq : q.1 ≤ 3584) : ∃ (n e : Nat) (σ : Hp), f_L_law q zBegin 171 0 = some (1, n, e, σ) ∧ n ≤ 171 + 4 * 512 ∧ e ≤ 512 := law_all pick_PICK write_WRITE hq

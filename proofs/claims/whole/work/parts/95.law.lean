/-! ===== the law's loop ===== -/
section
variable {σ : Hp} {a a' b : Ab} {n : Nat} {B : Int} {e : Nat}
theorem J_m {B' : Int} (H : J σ a n B) (h : B ≤ B') : J σ a n B' := by
  obtain ⟨W, K, V, I, VV, h1, h2⟩ := H
  exact ⟨W, K, V, IC_m W (fun _ _ => rfl) h I, ICV_f VV rfl rfl rfl rfl (by omega), h1, by omega⟩
theorem e01 (x : Int) : (if x = 0 then some 0 else some 1 : Option Int) = some (if x = 0 then 0 else 1) := by
  by_cases h : x = 0
  · rw [if_pos h, if_pos h]
  · rw [if_neg h, if_neg h]
theorem b01 (x : Int) : (if x = 0 then (0 : Int) else 1) = 0 ∨ (if x = 0 then (0 : Int) else 1) = 1 := by
  by_cases h : x = 0
  · rw [if_pos h]; exact Or.inl rfl
  · rw [if_neg h]; exact Or.inr rfl
theorem un_bind {α β : Type} {x : Option α} {f : α → β} {P : β → Prop} (h : Okk (x.bind fun r => some (f r)) P) : Okk x fun r => P (f r) := by
  cases x with
  | none => obtain ⟨a, h, _⟩ := h; cases h
  | some v => obtain ⟨a, h, p⟩ := h; cases h; exact ⟨v, rfl, p⟩
abbrev LW : Type := Int × Nat × Nat × Hp
theorem law_tail {c : Int} {s : Hp} {v : Int} {y : Int} {f1 f2 : Option LW} {kk : Option LW} {Q : LW → Prop} (r1 : s 129 50 = c) (r2 : c = 0 → s 170 0 = v) (h32 : r32 (y + 7)) (hk : Okk kk Q) : Okk ((f_M_thrown s).bind fun t => if t = c then if c ≠ 0 then grd (r32 (y + 7)) <| kk else grd (0 ≤ (0 : Int) ∧ (0 : Int) < 1) <| if (lcm (s 170 0) v) = 0 then grd (r32 (y + 7)) <| kk else f1 else f2) Q := by
  refine ok_eqb (v := s 129 50) rfl ?_
  rw [if_pos r1]
  refine ok_ite (fun _ => ok_grd h32 hk) (fun g => ok_grd (by omega) ?_)
  rw [if_pos (lcm_eq.mpr (r2 (Classical.not_not.mp g)))]
  exact ok_grd h32 hk
theorem law_tailh {c : Int} {s : Hp} {v : Int} {y : Int} {f1 f2 : Option LW} {kk : Option LW} {Q : LW → Prop} (r1 : s 129 50 = c) (r2 : c = 0 → s 170 0 = if v = 0 then 0 else 1) (h32 : r32 (y + 7)) (hk : Okk kk Q) : Okk ((f_M_thrown s).bind fun t => if t = c then if c ≠ 0 then grd (r32 (y + 7)) <| kk else grd (0 ≤ (0 : Int) ∧ (0 : Int) < 1) <| (if v = 0 then some 0 else some 1 : Option (Int)).bind fun j => if (lcm (s 170 0) j) = 0 then grd (r32 (y + 7)) <| kk else f1 else f2) Q := by
  refine ok_eqb (v := s 129 50) rfl ?_
  rw [if_pos r1]
  refine ok_ite (fun _ => ok_grd h32 hk) (fun g => ok_grd (by omega) (ok_eqb (e01 v) ?_))
  rw [if_pos (lcm_eq.mpr (r2 (Classical.not_not.mp g)))]
  exact ok_grd h32 hk
def PICK : Prop := ∀ (σ : Hp) (a : Ab) (n : Nat) (B : Int) (e : Nat), J σ a n B → B ≤ 100000 → ∀ d k p m t : Int, OPT σ a n B e (f_L_pick σ e d k p m t) (fun σ' => f_M_pick σ' d k p m t)
def WRITE : Prop := ∀ (σ : Hp) (a : Ab) (n : Nat) (B : Int) (e : Nat), J σ a n B → B ≤ 100000 → ∀ t x y m v h : Int, OPT σ a n B e (f_L_write σ e t x y m v h) (fun σ' => f_M_write σ' t x y m v h)
theorem law_loop (hP : PICK) (hW : WRITE) {q : Nat × (Nat → Int32)} (hq : q.1 ≤ 3584) : ∀ (F k : Nat) (y : Int) (σ : Hp) (a : Ab) (n e : Nat), y = 7 * k → k ≤ 512 → 513 - k < F → J σ a n (60 * k) → n ≤ 171 + 4 * k → e ≤ k → Okk (f_L_law_23 q F y σ n e) fun r => r.1 = 1 ∧ r.2.1 ≤ 171 + 4 * 512 ∧ r.2.2.1 ≤ 512 := by
  intro F
  induction F with
  | zero => intro k y σ a n e hy hk hF; omega
  | succ F ih =>
    intro k y σ a n e hy hk hF H hn he
    rw [f_L_law_23]
    refine ok_grd (by (first | omega | (unfold r32; omega) | (unfold r64; omega) | (simp only [r32, r64] at *; omega))) (ok_grd (by (first | omega | (unfold r32; omega) | (unfold r64; omega) | (simp only [r32, r64] at *; omega))) (ok_ite (fun _ => ok_grd (by omega) (ok_some ⟨rfl, by dsimp only; omega, by dsimp only; omega⟩)) (fun gy => ok_grd (by omega) ?_)))
    have hk2 : k + 1 ≤ 512 := by omega
    have h32 : r32 (y + 7) := by (first | omega | (unfold r32; omega) | (unfold r64; omega) | (simp only [r32, r64] at *; omega))
    have hB : (60 * (k : Int)) ≤ 100000 := by omega
    have e60 : (60 * (k : Int)) + 60 = 60 * ((k + 1 : Nat) : Int) := by omega
    have nx : ∀ (s : Hp) (a' : Ab) (n' e' : Nat), J s a' n' (60 * (k : Int) + 60) → n' ≤ n + 4 → e' ≤ e + 1 → Okk (f_L_law_23 q F (y + 7) s n' e') fun r => r.1 = 1 ∧ r.2.1 ≤ 171 + 4 * 512 ∧ r.2.2.1 ≤ 512 := fun s a' n' e' h1 h2 h3 => ih (k + 1) (y + 7) s a' n' e' (by omega) hk2 (by omega) (by rw [← e60]; exact h1) (by omega) (by omega)
    have g1 : ∀ j : Int, 0 ≤ j → j ≤ 7 → r32 (y + j) := fun j _ _ => by (first | omega | (unfold r32; omega) | (unfold r64; omega) | (simp only [r32, r64] at *; omega))
    have g2 : ∀ j : Int, 0 ≤ j → j ≤ 6 → 0 ≤ y + j ∧ y + j < (q.1 : Int) := fun j _ _ => by omega
    -- 0 member
    refine ok_ite (fun _ => ?_) (fun _ => ?_)
    · refine ok_grd (g1 1 (by omega) (by omega)) (ok_grd (g2 1 (by omega) (by omega)) (ok_grd (g1 2 (by omega) (by omega)) (ok_grd (g2 2 (by omega) (by omega)) (ok_grd (g1 3 (by omega) (by omega)) (ok_grd (g2 3 (by omega) (by omega)) (?_))))))
      refine ok_call (opt_step (e := e) H (op_member H hB _ _ _)) ?_
      rintro l ⟨l1, l2⟩
      refine ok_grd (g1 1 (by omega) (by omega)) (ok_grd (g2 1 (by omega) (by omega)) (ok_grd (g1 2 (by omega) (by omega)) (ok_grd (g2 2 (by omega) (by omega)) (ok_grd (g1 3 (by omega) (by omega)) (ok_grd (g2 3 (by omega) (by omega)) (?_))))))
      refine ok_call l2 ?_
      rintro r ⟨r1, r2, a', r3⟩
      exact law_tail r1 r2 h32 (nx _ a' _ _ r3 (by omega) l1)
    -- 1 bridge
    refine ok_ite (fun _ => ?_) (fun _ => ?_)
    · refine ok_grd (g1 1 (by omega) (by omega)) (ok_grd (g2 1 (by omega) (by omega)) (ok_grd (g1 2 (by omega) (by omega)) (ok_grd (g2 2 (by omega) (by omega)) (?_))))
      refine ok_call (opt_step (e := e) H (op_bridge H hB _ _)) ?_
      rintro l ⟨l1, l2⟩
      refine ok_grd (g1 1 (by omega) (by omega)) (ok_grd (g2 1 (by omega) (by omega)) (ok_grd (g1 2 (by omega) (by omega)) (ok_grd (g2 2 (by omega) (by omega)) (?_))))
      refine ok_call l2 ?_
      rintro r ⟨r1, r2, a', r3⟩
      exact law_tail r1 r2 h32 (nx _ a' _ _ r3 (by omega) l1)
    -- 2 move
    refine ok_ite (fun _ => ?_) (fun _ => ?_)
    · refine ok_grd (g1 1 (by omega) (by omega)) (ok_grd (g2 1 (by omega) (by omega)) (ok_grd (g1 2 (by omega) (by omega)) (ok_grd (g2 2 (by omega) (by omega)) (ok_grd (g1 3 (by omega) (by omega)) (ok_grd (g2 3 (by omega) (by omega)) (ok_grd (g1 4 (by omega) (by omega)) (ok_grd (g2 4 (by omega) (by omega)) (?_))))))))
      refine ok_call (opt_step (e := e) H (op_move H hB _ _ _ _)) ?_
      rintro l ⟨l1, l2⟩
      refine ok_grd (g1 1 (by omega) (by omega)) (ok_grd (g2 1 (by omega) (by omega)) (ok_grd (g1 2 (by omega) (by omega)) (ok_grd (g2 2 (by omega) (by omega)) (ok_grd (g1 3 (by omega) (by omega)) (ok_grd (g2 3 (by omega) (by omega)) (ok_grd (g1 4 (by omega) (by omega)) (ok_grd (g2 4 (by omega) (by omega)) (?_))))))))
      refine ok_call l2 ?_
      rintro r ⟨r1, r2, a', r3⟩
      exact law_tail r1 r2 h32 (nx _ a' _ _ r3 (by omega) l1)
    -- 3 asNow
    refine ok_ite (fun _ => ?_) (fun _ => ?_)
    · refine ok_grd (g1 1 (by omega) (by omega)) (ok_grd (g2 1 (by omega) (by omega)) (ok_eqb (e01 _) ?_))
      refine ok_call (op2_asNow H hB (b01 _)) ?_
      intro l l2
      refine ok_grd (g1 1 (by omega) (by omega)) (ok_grd (g2 1 (by omega) (by omega)) (ok_eqb (e01 _) ?_))
      refine ok_call l2 ?_
      rintro r ⟨r1, a', r3⟩
      rw [if_pos r1]
      exact ok_grd h32 (nx _ a' _ _ r3 (by omega) (by omega))
    -- 4 memberAt
    refine ok_ite (fun _ => ?_) (fun _ => ?_)
    · refine ok_grd (g1 1 (by omega) (by omega)) (ok_grd (g2 1 (by omega) (by omega)) (ok_grd (g1 2 (by omega) (by omega)) (ok_grd (g2 2 (by omega) (by omega)) (ok_grd (g1 3 (by omega) (by omega)) (ok_grd (g2 3 (by omega) (by omega)) (?_))))))
      refine ok_call (opt_step (e := e) H (op_memberAt H _ _ _)) ?_
      rintro l ⟨l1, l2⟩
      refine ok_grd (g1 1 (by omega) (by omega)) (ok_grd (g2 1 (by omega) (by omega)) (ok_grd (g1 2 (by omega) (by omega)) (ok_grd (g2 2 (by omega) (by omega)) (ok_grd (g1 3 (by omega) (by omega)) (ok_grd (g2 3 (by omega) (by omega)) (?_))))))
      refine ok_call l2 ?_
      rintro r ⟨r1, r2, a', r3⟩
      exact law_tail r1 r2 h32 (nx _ a' _ _ r3 (by omega) l1)
    -- 5 word
    refine ok_ite (fun _ => ?_) (fun _ => ?_)
    · refine ok_grd (g1 1 (by omega) (by omega)) (ok_grd (g2 1 (by omega) (by omega)) (ok_grd (g1 2 (by omega) (by omega)) (ok_grd (g2 2 (by omega) (by omega)) (ok_grd (g1 3 (by omega) (by omega)) (ok_grd (g2 3 (by omega) (by omega)) (?_))))))
      refine ok_call (opt_step (e := e) H (op_word H hB _ _ _)) ?_
      rintro l ⟨l1, l2⟩
      refine ok_grd (g1 1 (by omega) (by omega)) (ok_grd (g2 1 (by omega) (by omega)) (ok_grd (g1 2 (by omega) (by omega)) (ok_grd (g2 2 (by omega) (by omega)) (ok_grd (g1 3 (by omega) (by omega)) (ok_grd (g2 3 (by omega) (by omega)) (?_))))))
      refine ok_call l2 ?_
      rintro r ⟨r1, r2, a', r3⟩
      exact law_tail r1 r2 h32 (nx _ a' _ _ r3 (by omega) l1)
    -- 6 calculate
    refine ok_ite (fun _ => ?_) (fun _ => ?_)
    · refine ok_grd (g1 1 (by omega) (by omega)) (ok_grd (g2 1 (by omega) (by omega)) (ok_grd (g1 2 (by omega) (by omega)) (ok_grd (g2 2 (by omega) (by omega)) (?_))))
      refine ok_call (op_calc (e := e) H hB _ _) ?_
      rintro l ⟨l0, l1, l2⟩
      refine ok_grd (g1 1 (by omega) (by omega)) (ok_grd (g2 1 (by omega) (by omega)) (ok_grd (g1 2 (by omega) (by omega)) (ok_grd (g2 2 (by omega) (by omega)) (?_))))
      refine ok_call l2 ?_
      rintro r ⟨r1, r2, a', r3⟩
      exact law_tail r1 r2 h32 (nx _ a' _ _ r3 l0 l1)
    -- 7 hide
    refine ok_ite (fun _ => ?_) (fun _ => ?_)
    · refine ok_grd (g1 1 (by omega) (by omega)) (ok_grd (g2 1 (by omega) (by omega)) (ok_grd (g1 2 (by omega) (by omega)) (ok_grd (g2 2 (by omega) (by omega)) (ok_grd (g1 3 (by omega) (by omega)) (ok_grd (g2 3 (by omega) (by omega)) (ok_eqb (e01 _) ?_))))))
      refine ok_call (opt_step (e := e) H (op_hide H hB _ _ _ (b01 _))) ?_
      rintro l ⟨l1, l2⟩
      refine ok_grd (g1 1 (by omega) (by omega)) (ok_grd (g2 1 (by omega) (by omega)) (ok_grd (g1 2 (by omega) (by omega)) (ok_grd (g2 2 (by omega) (by omega)) (ok_grd (g1 3 (by omega) (by omega)) (ok_grd (g2 3 (by omega) (by omega)) (ok_eqb (e01 _) ?_))))))
      refine ok_call (un_bind l2) ?_
      rintro r ⟨r1, r2, a', r3⟩
      exact law_tailh r1 r2 h32 (nx _ a' _ _ r3 (by omega) l1)
    -- 8 totals
    refine ok_ite (fun _ => ?_) (fun _ => ?_)
    · refine ok_grd (g1 1 (by omega) (by omega)) (ok_grd (g2 1 (by omega) (by omega)) (ok_eqb (e01 _) ?_))
      refine ok_call (op2_totals H hB (b01 _)) ?_
      intro l l2
      refine ok_grd (g1 1 (by omega) (by omega)) (ok_grd (g2 1 (by omega) (by omega)) (ok_eqb (e01 _) ?_))
      refine ok_call l2 ?_
      rintro r ⟨r1, a', r3⟩
      rw [if_pos r1]
      exact ok_grd h32 (nx _ a' _ _ r3 (by omega) (by omega))
    -- 9 measure
    refine ok_ite (fun _ => ?_) (fun _ => ?_)
    · refine ok_grd (g1 1 (by omega) (by omega)) (ok_grd (g2 1 (by omega) (by omega)) (ok_grd (g1 2 (by omega) (by omega)) (ok_grd (g2 2 (by omega) (by omega)) (ok_grd (g1 3 (by omega) (by omega)) (ok_grd (g2 3 (by omega) (by omega)) (?_))))))
      refine ok_call (opt_step (e := e) H (op_measure H hB _ _ _)) ?_
      rintro l ⟨l1, l2⟩
      refine ok_grd (g1 1 (by omega) (by omega)) (ok_grd (g2 1 (by omega) (by omega)) (ok_grd (g1 2 (by omega) (by omega)) (ok_grd (g2 2 (by omega) (by omega)) (ok_grd (g1 3 (by omega) (by omega)) (ok_grd (g2 3 (by omega) (by omega)) (?_))))))
      refine ok_call l2 ?_
      rintro r ⟨r1, r2, a', r3⟩
      exact law_tail r1 r2 h32 (nx _ a' _ _ r3 (by omega) l1)
    -- 10 from
    refine ok_ite (fun _ => ?_) (fun _ => ?_)
    · refine ok_grd (g1 1 (by omega) (by omega)) (ok_grd (g2 1 (by omega) (by omega)) (ok_grd (g1 2 (by omega) (by omega)) (ok_grd (g2 2 (by omega) (by omega)) (ok_grd (g1 3 (by omega) (by omega)) (ok_grd (g2 3 (by omega) (by omega)) (?_))))))
      refine ok_call (opt_step (e := e) H (op_from H hB _ _ _)) ?_
      rintro l ⟨l1, l2⟩
      refine ok_grd (g1 1 (by omega) (by omega)) (ok_grd (g2 1 (by omega) (by omega)) (ok_grd (g1 2 (by omega) (by omega)) (ok_grd (g2 2 (by omega) (by omega)) (ok_grd (g1 3 (by omega) (by omega)) (ok_grd (g2 3 (by omega) (by omega)) (?_))))))
      refine ok_call l2 ?_
      rintro r ⟨r1, r2, a', r3⟩
      exact law_tail r1 r2 h32 (nx _ a' _ _ r3 (by omega) l1)
    -- 11 fact
    refine ok_ite (fun _ => ?_) (fun _ => ?_)
    · refine ok_grd (g1 1 (by omega) (by omega)) (ok_grd (g2 1 (by omega) (by omega)) (ok_grd (g1 2 (by omega) (by omega)) (ok_grd (g2 2 (by omega) (by omega)) (ok_grd (g1 3 (by omega) (by omega)) (ok_grd (g2 3 (by omega) (by omega)) (ok_grd (g1 4 (by omega) (by omega)) (ok_grd (g2 4 (by omega) (by omega)) (ok_grd (g1 5 (by omega) (by omega)) (ok_grd (g2 5 (by omega) (by omega)) (?_))))))))))
      refine ok_call (opt_step (e := e) H (op_fact H hB _ _ _ _ _)) ?_
      rintro l ⟨l1, l2⟩
      refine ok_grd (g1 1 (by omega) (by omega)) (ok_grd (g2 1 (by omega) (by omega)) (ok_grd (g1 2 (by omega) (by omega)) (ok_grd (g2 2 (by omega) (by omega)) (ok_grd (g1 3 (by omega) (by omega)) (ok_grd (g2 3 (by omega) (by omega)) (ok_grd (g1 4 (by omega) (by omega)) (ok_grd (g2 4 (by omega) (by omega)) (ok_grd (g1 5 (by omega) (by omega)) (ok_grd (g2 5 (by omega) (by omega)) (?_))))))))))
      refine ok_call l2 ?_
      rintro r ⟨r1, r2, a', r3⟩
      exact law_tail r1 r2 h32 (nx _ a' _ _ r3 (by omega) l1)
    -- 12 forget
    refine ok_ite (fun _ => ?_) (fun _ => ?_)
    · refine ok_grd (g1 1 (by omega) (by omega)) (ok_grd (g2 1 (by omega) (by omega)) (ok_grd (g1 2 (by omega) (by omega)) (ok_grd (g2 2 (by omega) (by omega)) (ok_grd (g1 3 (by omega) (by omega)) (ok_grd (g2 3 (by omega) (by omega)) (ok_grd (g1 4 (by omega) (by omega)) (ok_grd (g2 4 (by omega) (by omega)) (?_))))))))
      refine ok_call (opt_step (e := e) H (op_forget H hB _ _ _ _)) ?_
      rintro l ⟨l1, l2⟩
      refine ok_grd (g1 1 (by omega) (by omega)) (ok_grd (g2 1 (by omega) (by omega)) (ok_grd (g1 2 (by omega) (by omega)) (ok_grd (g2 2 (by omega) (by omega)) (ok_grd (g1 3 (by omega) (by omega)) (ok_grd (g2 3 (by omega) (by omega)) (ok_grd (g1 4 (by omega) (by omega)) (ok_grd (g2 4 (by omega) (by omega)) (?_))))))))
      refine ok_call l2 ?_
      rintro r ⟨r1, r2, a', r3⟩
      exact law_tail r1 r2 h32 (nx _ a' _ _ r3 (by omega) l1)
    -- 13 cell
    refine ok_ite (fun _ => ?_) (fun _ => ?_)
    · refine ok_grd (g1 1 (by omega) (by omega)) (ok_grd (g2 1 (by omega) (by omega)) (ok_grd (g1 2 (by omega) (by omega)) (ok_grd (g2 2 (by omega) (by omega)) (ok_grd (g1 3 (by omega) (by omega)) (ok_grd (g2 3 (by omega) (by omega)) (ok_grd (g1 4 (by omega) (by omega)) (ok_grd (g2 4 (by omega) (by omega)) (?_))))))))
      refine ok_call (opt_step (e := e) H (op_cell H hB _ _ _ _)) ?_
      rintro l ⟨l1, l2⟩
      refine ok_grd (g1 1 (by omega) (by omega)) (ok_grd (g2 1 (by omega) (by omega)) (ok_grd (g1 2 (by omega) (by omega)) (ok_grd (g2 2 (by omega) (by omega)) (ok_grd (g1 3 (by omega) (by omega)) (ok_grd (g2 3 (by omega) (by omega)) (ok_grd (g1 4 (by omega) (by omega)) (ok_grd (g2 4 (by omega) (by omega)) (?_))))))))
      refine ok_call l2 ?_
      rintro r ⟨r1, r2, a', r3⟩
      exact law_tail r1 r2 h32 (nx _ a' _ _ r3 (by omega) l1)
    -- 14 cellAnew
    refine ok_ite (fun _ => ?_) (fun _ => ?_)
    · refine ok_grd (g1 1 (by omega) (by omega)) (ok_grd (g2 1 (by omega) (by omega)) (ok_grd (g1 2 (by omega) (by omega)) (ok_grd (g2 2 (by omega) (by omega)) (ok_grd (g1 3 (by omega) (by omega)) (ok_grd (g2 3 (by omega) (by omega)) (ok_grd (g1 4 (by omega) (by omega)) (ok_grd (g2 4 (by omega) (by omega)) (?_))))))))
      refine ok_call (opt_step (e := e) H (op_cellAnew H hB _ _ _ _)) ?_
      rintro l ⟨l1, l2⟩
      refine ok_grd (g1 1 (by omega) (by omega)) (ok_grd (g2 1 (by omega) (by omega)) (ok_grd (g1 2 (by omega) (by omega)) (ok_grd (g2 2 (by omega) (by omega)) (ok_grd (g1 3 (by omega) (by omega)) (ok_grd (g2 3 (by omega) (by omega)) (ok_grd (g1 4 (by omega) (by omega)) (ok_grd (g2 4 (by omega) (by omega)) (?_))))))))
      refine ok_call l2 ?_
      rintro r ⟨r1, r2, a', r3⟩
      exact law_tail r1 r2 h32 (nx _ a' _ _ r3 (by omega) l1)
    -- 15 kept
    refine ok_ite (fun _ => ?_) (fun _ => ?_)
    · refine ok_call (op2_kept H) ?_
      intro l l2
      refine ok_call l2 ?_
      rintro r ⟨r1, a', r3⟩
      rw [if_pos r1]
      exact ok_grd h32 (nx _ a' _ _ r3 (by omega) (by omega))
    -- 16 hits
    refine ok_ite (fun _ => ?_) (fun _ => ?_)
    · refine ok_call (op2_hits H) ?_
      intro l l2
      refine ok_call l2 ?_
      rintro r ⟨r1, a', r3⟩
      rw [if_pos r1]
      exact ok_grd h32 (nx _ a' _ _ r3 (by omega) (by omega))
    -- 17 at
    refine ok_ite (fun _ => ?_) (fun _ => ?_)
    · refine ok_grd (g1 1 (by omega) (by omega)) (ok_grd (g2 1 (by omega) (by omega)) (ok_grd (g1 2 (by omega) (by omega)) (ok_grd (g2 2 (by omega) (by omega)) (?_))))
      refine ok_call (opt_step (e := e) H (op_at H _ _)) ?_
      rintro l ⟨l1, l2⟩
      refine ok_grd (g1 1 (by omega) (by omega)) (ok_grd (g2 1 (by omega) (by omega)) (ok_grd (g1 2 (by omega) (by omega)) (ok_grd (g2 2 (by omega) (by omega)) (?_))))
      refine ok_call l2 ?_
      rintro r ⟨r1, r2, a', r3⟩
      exact law_tail r1 r2 h32 (nx _ a' _ _ r3 (by omega) l1)
    -- 18 pick
    refine ok_ite (fun _ => ?_) (fun _ => ?_)
    · refine ok_grd (g1 1 (by omega) (by omega)) (ok_grd (g2 1 (by omega) (by omega)) (ok_grd (g1 2 (by omega) (by omega)) (ok_grd (g2 2 (by omega) (by omega)) (ok_grd (g1 3 (by omega) (by omega)) (ok_grd (g2 3 (by omega) (by omega)) (ok_grd (g1 4 (by omega) (by omega)) (ok_grd (g2 4 (by omega) (by omega)) (ok_grd (g1 5 (by omega) (by omega)) (ok_grd (g2 5 (by omega) (by omega)) (?_))))))))))
      refine ok_call (opt_step (e := e) H (hP σ a n _ e H hB _ _ _ _ _)) ?_
      rintro l ⟨l1, l2⟩
      refine ok_grd (g1 1 (by omega) (by omega)) (ok_grd (g2 1 (by omega) (by omega)) (ok_grd (g1 2 (by omega) (by omega)) (ok_grd (g2 2 (by omega) (by omega)) (ok_grd (g1 3 (by omega) (by omega)) (ok_grd (g2 3 (by omega) (by omega)) (ok_grd (g1 4 (by omega) (by omega)) (ok_grd (g2 4 (by omega) (by omega)) (ok_grd (g1 5 (by omega) (by omega)) (ok_grd (g2 5 (by omega) (by omega)) (?_))))))))))
      refine ok_call l2 ?_
      rintro r ⟨r1, r2, a', r3⟩
      exact law_tail r1 r2 h32 (nx _ a' _ _ r3 (by omega) l1)
    -- 19 picked
    refine ok_ite (fun _ => ?_) (fun _ => ?_)
    · refine ok_grd (g1 1 (by omega) (by omega)) (ok_grd (g2 1 (by omega) (by omega)) (ok_grd (g1 2 (by omega) (by omega)) (ok_grd (g2 2 (by omega) (by omega)) (?_))))
      refine ok_call (opt_step (e := e) H (op_picked H _ _)) ?_
      rintro l ⟨l1, l2⟩
      refine ok_grd (g1 1 (by omega) (by omega)) (ok_grd (g2 1 (by omega) (by omega)) (ok_grd (g1 2 (by omega) (by omega)) (ok_grd (g2 2 (by omega) (by omega)) (?_))))
      refine ok_call l2 ?_
      rintro r ⟨r1, r2, a', r3⟩
      exact law_tail r1 r2 h32 (nx _ a' _ _ r3 (by omega) l1)
    -- 20 cross
    refine ok_ite (fun _ => ?_) (fun _ => ?_)
    · refine ok_grd (g1 1 (by omega) (by omega)) (ok_grd (g2 1 (by omega) (by omega)) (ok_grd (g1 2 (by omega) (by omega)) (ok_grd (g2 2 (by omega) (by omega)) (ok_grd (g1 3 (by omega) (by omega)) (ok_grd (g2 3 (by omega) (by omega)) (?_))))))
      refine ok_call (opt_step (e := e) H (op_cross H hB _ _ _)) ?_
      rintro l ⟨l1, l2⟩
      refine ok_grd (g1 1 (by omega) (by omega)) (ok_grd (g2 1 (by omega) (by omega)) (ok_grd (g1 2 (by omega) (by omega)) (ok_grd (g2 2 (by omega) (by omega)) (ok_grd (g1 3 (by omega) (by omega)) (ok_grd (g2 3 (by omega) (by omega)) (?_))))))
      refine ok_call l2 ?_
      rintro r ⟨r1, r2, a', r3⟩
      exact law_tail r1 r2 h32 (nx _ a' _ _ r3 (by omega) l1)
    -- 21 write
    refine ok_ite (fun _ => ?_) (fun _ => ?_)
    · refine ok_grd (g1 1 (by omega) (by omega)) (ok_grd (g2 1 (by omega) (by omega)) (ok_grd (g1 2 (by omega) (by omega)) (ok_grd (g2 2 (by omega) (by omega)) (ok_grd (g1 3 (by omega) (by omega)) (ok_grd (g2 3 (by omega) (by omega)) (ok_grd (g1 4 (by omega) (by omega)) (ok_grd (g2 4 (by omega) (by omega)) (ok_grd (g1 5 (by omega) (by omega)) (ok_grd (g2 5 (by omega) (by omega)) (ok_grd (g1 6 (by omega) (by omega)) (ok_grd (g2 6 (by omega) (by omega)) (?_))))))))))))
      refine ok_call (opt_step (e := e) H (hW σ a n _ e H hB _ _ _ _ _ _)) ?_
      rintro l ⟨l1, l2⟩
      refine ok_grd (g1 1 (by omega) (by omega)) (ok_grd (g2 1 (by omega) (by omega)) (ok_grd (g1 2 (by omega) (by omega)) (ok_grd (g2 2 (by omega) (by omega)) (ok_grd (g1 3 (by omega) (by omega)) (ok_grd (g2 3 (by omega) (by omega)) (ok_grd (g1 4 (by omega) (by omega)) (ok_grd (g2 4 (by omega) (by omega)) (ok_grd (g1 5 (by omega) (by omega)) (ok_grd (g2 5 (by omega) (by omega)) (ok_grd (g1 6 (by omega) (by omega)) (ok_grd (g2 6 (by omega) (by omega)) (?_))))))))))))
      refine ok_call l2 ?_
      rintro r ⟨r1, r2, a', r3⟩
      exact law_tail r1 r2 h32 (nx _ a' _ _ r3 (by omega) l1)
    -- 22 begin
    refine ok_ite (fun _ => ?_) (fun _ => ?_)
    · refine ok_call (opt_step (e := e) H (op_begin H)) ?_
      rintro l ⟨l1, l2⟩
      refine ok_call (un_bind l2) ?_
      rintro r ⟨r1, r2, a', r3⟩
      refine ok_eqb (v := r 129 50) rfl ?_
      rw [if_pos r1]
      exact ok_grd h32 (nx _ a' _ _ r3 (by omega) l1)
    -- 23 end
    refine ok_ite (fun _ => ?_) (fun _ => ?_)
    · refine ok_grd (g1 1 (by omega) (by omega)) (ok_grd (g2 1 (by omega) (by omega)) (ok_eqb (e01 _) ?_))
      refine ok_call (opt_step (e := e) H (op_end H hB)) ?_
      rintro l ⟨l1, l2⟩
      refine ok_grd (g1 1 (by omega) (by omega)) (ok_grd (g2 1 (by omega) (by omega)) (ok_eqb (e01 _) ?_))
      refine ok_call l2 ?_
      rintro r ⟨r1, r2, a', r3⟩
      exact law_tail r1 r2 h32 (nx _ a' _ _ r3 (by omega) l1)
    -- 24 facts
    refine ok_ite (fun _ => ?_) (fun _ => ?_)
    · refine ok_call (op2_facts H) ?_
      intro l l2
      refine ok_call l2 ?_
      rintro r ⟨r1, a', r3⟩
      rw [if_pos r1]
      exact ok_grd h32 (nx _ a' _ _ r3 (by omega) (by omega))
    exact ok_grd h32 (nx _ a _ _ (J_m H (by omega)) (by omega) (by omega))
end

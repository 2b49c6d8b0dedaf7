/-! ===== the reference's weights, counts ===== -/
theorem sgn_b {a : Ab} (W : WFA a) {d m : Int} (hd : inD d) (ht : thr a d m) (hp : isP a d m) (h0 : 0 < m) : -1 ≤ a.sign (12 * d + m) ∧ a.sign (12 * d + m) ≤ 1 := by
  have h3 : 0 ≤ a.par (12 * d + m) ∧ a.par (12 * d + m) < m ∧ isP a d (a.par (12 * d + m)) ∧ -1 ≤ a.sign (12 * d + m) ∧ a.sign (12 * d + m) ≤ 1 := W 3 d m hd ht hp h0
  exact h3.2.2.2
theorem mul_1 {x y : Int} (hx : -1 ≤ x ∧ x ≤ 1) (hy : -1 ≤ y ∧ y ≤ 1) : -1 ≤ x * y ∧ x * y ≤ 1 := by
  have e : x = -1 ∨ x = 0 ∨ x = 1 := by omega
  rcases e with rfl | rfl | rfl <;> omega
theorem wbF_r {a : Ab} (W : WFA a) {d m o u : Int} (hd : inD d) (ht : thr a d m) (hp : isP a d m) : ∀ k : Nat, -1 ≤ wbF a d m o u k ∧ wbF a d m o u k ≤ 2
  | 0 => by unfold wbF; omega
  | k + 1 => by
    have ih := wbF_r W (o := o) (u := u) hd ht hp k
    have := wt_r W hd (top := (k : Int)) (u := u) (by omega) _ m ht hp (Nat.le_refl _)
    unfold wbF
    by_cases h : wbF a d m o u k ≠ 2
    · rw [if_pos h]; exact ih
    · rw [if_neg h]
      by_cases h2 : bitP (a.set (12 * d + o)) k
      · rw [if_pos h2]; exact this
      · rw [if_neg h2]; omega
theorem wgt_r {a : Ab} (W : WFA a) {d m o u : Int} (hd : inD d) (ht : thr a d m) (hp : isP a d m) (ho : 0 ≤ o) : -1 ≤ wgt a d m o u ∧ wgt a d m o u ≤ 2 := by
  unfold wgt
  by_cases h : a.kind (12 * d + o) = 0
  · rw [if_pos h]; exact wt_r W hd ho _ m ht hp (Nat.le_refl _)
  · rw [if_neg h]
    by_cases h1 : a.kind (12 * d + o) = 1
    · rw [if_pos h1]; exact wbF_r W hd ht hp 12
    · rw [if_neg h1]; omega
/-- the facts are where they may be -/
theorem fct {a : Ab} (W : WFA a) {f : Int} (h0 : 0 ≤ f) (h1 : f < a.facts) : (thr a 0 (a.ft f) ∧ isP a 0 (a.ft f)) ∧ (thr a 1 (a.fa f) ∧ isP a 1 (a.fa f)) ∧ (thr a 2 (a.fb f) ∧ isP a 2 (a.fb f)) ∧ 0 ≤ a.fm f ∧ a.fm f < a.measures ∧ a.mk (a.fm f) ≠ 3 ∧ -1000000 ≤ a.fv f ∧ a.fv f ≤ 1000000 ∧ f < 50 := by
  have h12 : 0 ≤ a.facts ∧ a.facts ≤ 50 ∧ ∀ f : Int, 0 ≤ f → f < a.facts → thr a 0 (a.ft f) ∧ isP a 0 (a.ft f) ∧ thr a 1 (a.fa f) ∧ isP a 1 (a.fa f) ∧ thr a 2 (a.fb f) ∧ isP a 2 (a.fb f) ∧ 0 ≤ a.fm f ∧ a.fm f < a.measures ∧ a.mk (a.fm f) ≠ 3 ∧ -1000000 ≤ a.fv f ∧ a.fv f ≤ 1000000 := W 12
  obtain ⟨g1, g2, g3, g4, g5, g6, g7, g8, g9, g10, g11⟩ := h12.2.2 f h0 h1
  exact ⟨⟨g1, g2⟩, ⟨g3, g4⟩, ⟨g5, g6⟩, g7, g8, g9, g10, g11, by omega⟩
theorem iD0 : inD 0 := Or.inl rfl
theorem iD1 : inD 1 := Or.inr (Or.inl rfl)
theorem iD2 : inD 2 := Or.inr (Or.inr rfl)
theorem cnt_r {a : Ab} (W : WFA a) {pt px py t x y : Int} (h0 : thr a 0 pt ∧ isP a 0 pt) (h1 : thr a 1 px ∧ isP a 1 px) (h2 : thr a 2 py ∧ isP a 2 py) (ht : 0 ≤ t) (hx : 0 ≤ x) (hy : 0 ≤ y) : -1 ≤ cnt a pt px py t x y ∧ cnt a pt px py t x y ≤ 1 := by
  have r0 := wgt_r W (u := until_ a pt) iD0 h0.1 h0.2 ht
  have r1 := wgt_r W (u := until_ a pt) iD1 h1.1 h1.2 hx
  have r2 := wgt_r W (u := until_ a pt) iD2 h2.1 h2.2 hy
  unfold cnt
  by_cases h : wgt a 0 pt t (until_ a pt) = 2 ∨ wgt a 1 px x (until_ a pt) = 2 ∨ wgt a 2 py y (until_ a pt) = 2 ∨ (a.leave ≠ 0 ∧ ¬ (seeP a 0 pt ∧ seeP a 1 px ∧ seeP a 2 py))
  · rw [if_pos h]; omega
  · rw [if_neg h]
    exact mul_1 (mul_1 (by omega) (by omega)) (by omega)
theorem mea {a : Ab} (W : WFA a) {m : Int} (h0 : 0 ≤ m) (h1 : m < a.measures) : m < 4 ∧ 0 ≤ a.mk m ∧ a.mk m ≤ 3 ∧ (a.mk m = 3 → 0 ≤ a.ma m ∧ a.ma m < m ∧ 0 ≤ a.mb m ∧ a.mb m < m) := by
  have h10 : 0 ≤ a.measures ∧ a.measures ≤ 4 ∧ ∀ m : Int, 0 ≤ m → m < a.measures → 0 ≤ a.mk m ∧ a.mk m ≤ 3 ∧ (a.mk m = 3 → 0 ≤ a.ma m ∧ a.ma m < m ∧ 0 ≤ a.mb m ∧ a.mb m < m) := W 10
  have := h10.2.2 m h0 h1
  exact ⟨by omega, this⟩

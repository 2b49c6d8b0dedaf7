/-! ===== the reference's plain values ===== -/
theorem lastF_ge (c pl : Int → Int) : ∀ k : Nat, -1 ≤ lastF c pl k
  | 0 => by unfold lastF; omega
  | k + 1 => by
    have ih := lastF_ge c pl k
    unfold lastF
    by_cases h : c k ≠ 0 ∧ lastF c pl k < pl k
    · rw [if_pos h]; omega
    · rw [if_neg h]; exact ih
theorem lastF_le {c pl : Int → Int} : ∀ (k : Nat) (f : Int), 0 ≤ f → f < k → c f ≠ 0 → pl f ≤ lastF c pl k
  | 0, f, h0, h1, _ => by omega
  | k + 1, f, h0, h1, hc => by
    unfold lastF
    by_cases e : f = k
    · subst e
      by_cases h : c k ≠ 0 ∧ lastF c pl k < pl k
      · rw [if_pos h]; omega
      · rw [if_neg h]
        have : ¬ lastF c pl k < pl k := fun g => h ⟨hc, g⟩
        omega
    · have ih := lastF_le (pl := pl) k f h0 (by omega) hc
      by_cases h : c k ≠ 0 ∧ lastF c pl k < pl k
      · rw [if_pos h]; omega
      · rw [if_neg h]; exact ih
theorem sumF_0 {c v : Int → Int} : ∀ (k : Nat), (∀ f : Int, 0 ≤ f → f < k → c f = 0) → sumF c v k = 0
  | 0, _ => rfl
  | k + 1, h => by
    show sumF c v k + c k * v k = 0
    rw [sumF_0 k (fun f h0 h1 => h f h0 (by omega)), h k (by omega) (by omega)]; omega
theorem sumF_e {c c' v v' : Int → Int} : ∀ (k : Nat), (∀ f : Int, 0 ≤ f → f < k → c f = c' f ∧ (c f ≠ 0 → v f = v' f)) → sumF c v k = sumF c' v' k
  | 0, _ => rfl
  | k + 1, h => by
    show sumF c v k + c k * v k = sumF c' v' k + c' k * v' k
    have := h k (by omega) (by omega)
    rw [sumF_e k (fun f h0 h1 => h f h0 (by omega)), ← this.1]
    by_cases e : c k = 0
    · rw [e]; omega
    · rw [this.2 e]
theorem mul_6 {c v : Int} (hc : -1 ≤ c ∧ c ≤ 1) (hv : -1000000 ≤ v ∧ v ≤ 1000000) : -1000000 ≤ c * v ∧ c * v ≤ 1000000 := by
  have e : c = -1 ∨ c = 0 ∨ c = 1 := by omega
  rcases e with rfl | rfl | rfl <;> omega
theorem sumF_b {c v : Int → Int} : ∀ (k : Nat), (∀ f : Int, 0 ≤ f → f < k → -1 ≤ c f ∧ c f ≤ 1 ∧ -1000000 ≤ v f ∧ v f ≤ 1000000) → -1000000 * (k : Int) ≤ sumF c v k ∧ sumF c v k ≤ 1000000 * (k : Int)
  | 0, _ => by unfold sumF; omega
  | k + 1, h => by
    have ih := sumF_b k (fun f h0 h1 => h f h0 (by omega))
    have := h k (by omega) (by omega)
    have := mul_6 ⟨this.1, this.2.1⟩ this.2.2
    show _ ≤ sumF c v k + c k * v k ∧ sumF c v k + c k * v k ≤ _
    omega
theorem diffF_b (c v : Int → Int) : ∀ k : Nat, 0 ≤ diffF c v k ∧ diffF c v k ≤ k
  | 0 => by unfold diffF; omega
  | k + 1 => by
    have ih := diffF_b c v k
    unfold diffF
    by_cases h : c k ≠ 0 ∧ ∀ g : Nat, g < k → c g ≠ 0 → v g ≠ v k
    · rw [if_pos h]; omega
    · rw [if_neg h]; omega
/-- the sum of what stands last so far -/
noncomputable def lsF (c pl v : Int → Int) (k : Nat) : Int := sumF (fun f => if pl f = lastF c pl k then c f else 0) v k
theorem lsF_s {c pl v : Int → Int} (k : Nat) : lsF c pl v (k + 1) = if c k = 0 then lsF c pl v k else if lastF c pl k < pl k then c k * v k else if pl k < lastF c pl k then lsF c pl v k else lsF c pl v k + c k * v k := by
  have e0 : lastF c pl (k + 1) = if c k ≠ 0 ∧ lastF c pl k < pl k then pl k else lastF c pl k := rfl
  have e1 : lsF c pl v (k + 1) = sumF (fun f => if pl f = lastF c pl (k + 1) then c f else 0) v k + (if pl k = lastF c pl (k + 1) then c k else 0) * v k := rfl
  rw [e1, e0]
  by_cases h0 : c k = 0
  · rw [if_pos h0, if_neg (fun g => g.1 h0), h0]
    unfold lsF
    by_cases h : pl k = lastF c pl k
    · rw [if_pos h]; omega
    · rw [if_neg h]; omega
  · rw [if_neg h0]
    by_cases h1 : lastF c pl k < pl k
    · rw [if_pos ⟨h0, h1⟩, if_pos h1, if_pos rfl, sumF_0 k (fun f f0 f1 => ?_)]
      · omega
      · by_cases e : pl f = pl k
        · rw [if_pos e]
          by_cases hc : c f = 0
          · exact hc
          · have := lastF_le (pl := pl) k f f0 f1 hc; omega
        · rw [if_neg e]
    · rw [if_neg (fun g => h1 g.2), if_neg h1]
      unfold lsF
      by_cases h2 : pl k < lastF c pl k
      · rw [if_neg (by omega), if_pos h2]; omega
      · rw [if_pos (by omega), if_neg h2]
theorem lsF_b {c pl v : Int → Int} (k : Nat) (h : ∀ f : Int, 0 ≤ f → f < k → -1 ≤ c f ∧ c f ≤ 1 ∧ -1000000 ≤ v f ∧ v f ≤ 1000000) : -1000000 * (k : Int) ≤ lsF c pl v k ∧ lsF c pl v k ≤ 1000000 * (k : Int) := by
  refine sumF_b k (fun f h0 h1 => ?_)
  have := h f h0 h1
  by_cases e : pl f = lastF c pl k
  · rw [if_pos e]; exact this
  · rw [if_neg e]; omega
theorem cnf_r {a : Ab} (W : WFA a) {m t x y : Int} (ht : 0 ≤ t) (hx : 0 ≤ x) (hy : 0 ≤ y) {f : Int} (h0 : 0 ≤ f) (h1 : f < a.facts) : -1 ≤ cnf a m t x y f ∧ cnf a m t x y f ≤ 1 := by
  obtain ⟨f0, f1, f2, -⟩ := fct W h0 h1
  unfold cnf
  by_cases h : a.fm f = m
  · rw [if_pos h]; exact cnt_r W f0 f1 f2 ht hx hy
  · rw [if_neg h]; omega

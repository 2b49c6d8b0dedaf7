theorem nxt_n {a a' : Ab} (W : WFA a) (W' : WT a') {p m : Int} (G : grown a a' p m) {k : Int} (ht : thr a 0 k) (hp : isP a 0 k) (hb : ¬ bel a p k) : nxt a' k = nxt a k := by
  have hk : k ≠ p := fun e => hb (e ▸ bel_p)
  unfold nxt
  rw [aft_gn W G _ hk, clb_n W W' G k.toNat k ht hp (Nat.le_refl _) (Or.inr hb)]
theorem nxt_i {a a' : Ab} (W : WFA a) (W' : WT a') {p m : Int} (G : grown a a' p m) {k : Int} (ht : thr a 0 k) (hp : isP a 0 k) (hb : bel a p k) : (nxt a' k = nxt a k ∧ thr a 0 (nxt a k) ∧ isP a 0 (nxt a k) ∧ bel a p (nxt a k) ∧ dep a 0 p < dep a 0 (nxt a k)) ∨ (nxt a k = clb a p ∧ nxt a' k = m) := by
  have hkd := bel_dep W _ k ht hp (Nat.le_refl _) hb
  unfold nxt
  rcases aft_b (wT W) k 0 with h | h
  · by_cases hkp : k = p
    · subst hkp
      have hm := many_b W (Or.inl rfl : inD 0)
      have g1 := G.1
      rw [h, aft_gm W G h (by omega), if_pos (by omega : (0 : Int) ≤ m), if_neg (by omega)]
      exact Or.inr ⟨rfl, rfl⟩
    · rw [aft_gn W G _ hkp, h, if_neg (by omega), if_neg (by omega)]
      rcases clb_i W W' G k.toNat k ht hp (Nat.le_refl _) hb hkp with c | c
      · exact Or.inl ⟨c.1, c.2.1, c.2.2.1, c.2.2.2.1, (bel_dep W _ _ c.2.1 c.2.2.1 (Nat.le_refl _) c.2.2.2.1).2.2 c.2.2.2.2⟩
      · exact Or.inr c
  · have h1 := h.2.1
    rw [aft_gy W G (by omega), if_pos (by omega), if_pos (by omega)]
    refine Or.inl ⟨rfl, h.1, h.2.2.2.1, (bel_s W h.1 h.2.2.2.1 h.2.1).mpr (Or.inr (by rw [h.2.2.2.2]; exact hb)), ?_⟩
    rw [dep_t W h.1 h.2.2.2.1 h.2.1, h.2.2.2.2]
    omega
theorem nxt_m {a a' : Ab} (W : WFA a) (W' : WT a') {p m : Int} (G : grown a a' p m) : nxt a' m = clb a p := by
  have hm := many_b W (Or.inl rfl : inD 0)
  obtain ⟨g1, g2, g3, g4, g5, g6, g7⟩ := id G
  have htm : thr a' 0 m := ⟨by omega, by omega⟩
  have hpm : m ≠ p := by have := g3.2; omega
  have h1 : aft a' m 0 = -1 := by
    rw [aft_gn W G _ hpm]
    rcases aft_b (wT W) m 0 with h | h
    · exact h
    · have := par_b (wT W) h.1 h.2.2.2.1 h.2.1
      have := h.1.2
      omega
  have h2 : aft a' p (m + 1) = -1 := by
    rcases aft_b W' p (m + 1) with h | h
    · exact h
    · have := h.1.2
      omega
  unfold nxt
  rw [h1, if_neg (by omega), clb_s W' htm g5 (by omega), g6, h2, if_neg (by omega)]
  exact clb_n W W' G p.toNat p g3 g4 (Nat.le_refl _) (Or.inl rfl)

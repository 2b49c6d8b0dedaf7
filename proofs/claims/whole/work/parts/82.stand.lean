/-! ===== the reference stands the members of time ===== -/
section
variable {σ : Hp} {a a' b : Ab} {n : Nat} {B : Int} {e : Nat} {d : Int}
/-- what standing reads -/
def tmv (σ : Hp) (a : Ab) : Prop := σ 130 0 = a.many 0 ∧ ∀ j : Int, 0 ≤ j → j < 12 → σ 131 j = a.kind j ∧ σ 132 j = a.par j
def mtc (a : Ab) (q k : Int) : Prop := 0 < k ∧ isP a 0 k ∧ a.par k = q
theorem aftF_c (a : Ab) (q f : Int) : ∀ k : Nat, (aftF a q f k = -1 ∧ ∀ j : Int, f ≤ j → 0 ≤ j → j < k → ¬ mtc a q j) ∨ (f ≤ aftF a q f k ∧ aftF a q f k < k ∧ mtc a q (aftF a q f k) ∧ ∀ j : Int, f ≤ j → 0 ≤ j → j < aftF a q f k → ¬ mtc a q j)
  | 0 => Or.inl ⟨rfl, fun j _ j0 j1 => by omega⟩
  | k + 1 => by
    have e : aftF a q f (k + 1) = if aftF a q f k = -1 ∧ f ≤ k ∧ 0 < (k : Int) ∧ isP a 0 k ∧ a.par k = q then (k : Int) else aftF a q f k := rfl
    rw [e]
    rcases aftF_c a q f k with g | g
    · by_cases h : f ≤ (k : Int) ∧ mtc a q k
      · rw [if_pos ⟨g.1, h.1, h.2⟩]
        exact Or.inr ⟨h.1, by omega, h.2, fun j j0 j1 j2 => g.2 j j0 j1 j2⟩
      · rw [if_neg (fun z => h ⟨z.2.1, z.2.2⟩)]
        refine Or.inl ⟨g.1, fun j j0 j1 j2 => ?_⟩
        by_cases z : j = k
        · rw [z] at j0 ⊢; exact fun w => h ⟨j0, w⟩
        · exact g.2 j j0 j1 (by omega)
    · have := g.2.2.1.1
      rw [if_neg (fun z => by have := z.1; omega)]
      exact Or.inr ⟨g.1, by omega, g.2.2.1, g.2.2.2⟩
theorem aft_u (W : WT a) {q f r : Int} (h : (r = -1 ∧ ∀ j : Int, f ≤ j → 0 ≤ j → j < a.many 0 → ¬ mtc a q j) ∨ (f ≤ r ∧ r < a.many 0 ∧ mtc a q r ∧ ∀ j : Int, f ≤ j → 0 ≤ j → j < r → ¬ mtc a q j)) : r = aft a q f := by
  have w := W.1
  have en : ((a.many 0).toNat : Int) = a.many 0 := by omega
  have c := aftF_c a q f (a.many 0).toNat
  unfold aft
  rw [en] at c
  generalize aftF a q f (a.many 0).toNat = t at c ⊢
  rcases h with h | h <;> rcases c with c | c
  · rw [h.1, c.1]
  · have := c.2.2.1.1; exact absurd c.2.2.1 (h.2 t c.1 (by omega) c.2.1)
  · have := h.2.2.1.1; exact absurd h.2.2.1 (c.2 r h.1 (by omega) h.2.1)
  · have h0 := h.2.2.1.1
    have c0 := c.2.2.1.1
    rcases Int.lt_trichotomy r t with g | g | g
    · exact absurd h.2.2.1 (c.2.2.2 r h.1 (by omega) g)
    · exact g
    · exact absurd c.2.2.1 (h.2.2.2 t c.1 (by omega) g)
theorem e_M_after (W : WT a) (T : tmv σ a) {q f : Int} (f0 : 0 ≤ f) (f1 : f ≤ a.many 0) : f_M_after σ q f = some (aft a q f) := by
  have w := W
  have L : ∀ (F : Nat) (k y3 : Int), f ≤ k → k ≤ a.many 0 → k - f < F → ((y3 = -1 ∧ ∀ j : Int, k ≤ j → 0 ≤ j → j < a.many 0 → ¬ mtc a q j) ∨ (k ≤ y3 ∧ y3 < a.many 0 ∧ mtc a q y3 ∧ ∀ j : Int, k ≤ j → 0 ≤ j → j < y3 → ¬ mtc a q j)) → Okk (f_M_after_12 σ q f F y3 (k - 1)) fun r => r.1 = aft a q f := by
    intro F
    induction F with
    | zero => intro k y3 k0 k1 hF; omega
    | succ F ih =>
      intro k y3 k0 k1 hF hy
      rw [f_M_after_12]
      refine ok_ite (fun g => ok_some (aft_u W ?_)) (fun g => ?_)
      · have : k = f := by omega
        subst this; exact hy
      · have t2 := T.2 (k - 1) (by omega) (by have := w.2.1; omega)
        refine ok_call (P := fun j => (mtc a q (k - 1) → j = k - 1) ∧ (¬ mtc a q (k - 1) → j = y3)) ?_ ?_
        · rw [t2.1, t2.2]
          refine ok_ite (fun g1 => ok_some ⟨fun z => absurd z.1 (by omega), fun _ => rfl⟩) (fun g1 => ok_grd (by have := w.2.1; omega) (ok_ite (fun g2 => ok_some ⟨fun z => ?_, fun _ => rfl⟩) (fun g2 => ok_grd (by have := w.2.1; omega) (ok_ite (fun g3 => ok_some ⟨fun z => absurd z.2.2 g3, fun _ => rfl⟩) (fun g3 => ok_some ⟨fun _ => rfl, fun z => absurd ⟨by omega, ?_, Classical.not_not.mp g3⟩ z⟩)))))
          · have z2 : a.kind (12 * 0 + (k - 1)) = 0 := z.2.1
            rw [show 12 * 0 + (k - 1) = k - 1 by omega] at z2
            exact absurd z2 g2
          · show a.kind (12 * 0 + (k - 1)) = 0
            rw [show 12 * 0 + (k - 1) = k - 1 by omega]; exact Classical.not_not.mp g2
        · rintro j ⟨j1, j2⟩
          refine ok_grd (by have := w.2.1; (first | omega | (unfold r32; omega) | (unfold r64; omega) | (simp only [r32, r64] at *; omega))) ?_
          rw [show k - 1 + (-1) = (k - 1) - 1 by omega]
          refine ih (k - 1) j (by omega) (by omega) (by omega) ?_
          by_cases z : mtc a q (k - 1)
          · rw [j1 z]
            exact Or.inr ⟨Int.le_refl _, by omega, z, fun j j0 _ j2 => by omega⟩
          · rw [j2 z]
            rcases hy with hy | hy
            · refine Or.inl ⟨hy.1, fun j j0 jz j1 => ?_⟩
              by_cases z2 : j = k - 1
              · rw [z2]; exact z
              · exact hy.2 j (by omega) jz j1
            · refine Or.inr ⟨by omega, hy.2.1, hy.2.2.1, fun j j0 jz j1 => ?_⟩
              by_cases z2 : j = k - 1
              · rw [z2]; exact z
              · exact hy.2.2.2 j (by omega) jz j1
  unfold f_M_after
  apply ok_eq
  rw [T.1]
  refine ok_grd (by omega) (ok_grd (by have := w.2.1; (first | omega | (unfold r32; omega) | (unfold r64; omega) | (simp only [r32, r64] at *; omega))) (ok_call (L zFuel (a.many 0) (-1) f1 (Int.le_refl _) (by unfold zFuel; have := w.2.1; omega) (Or.inl ⟨rfl, fun j j0 _ j1 => by omega⟩)) (fun r hr => ok_some hr)))
/-- the climb to the next -/
theorem l_stand25 (W : WT a) {y1 y2 : Int} {σ3 : Hp} (T : tmv (hset σ3 145 y1 y2) a) : ∀ (F : Nat) (k y9 : Int), thr a 0 k → isP a 0 k → k < F → (0 ≤ y9 ∨ y9 = -1) → Okk (f_M_stand_25 y1 y2 σ3 F k y9) fun r => r.2 = if 0 ≤ y9 then y9 else clb a k := by
  intro F
  induction F with
  | zero => intro k y9 ht hp hF; have := ht.1; omega
  | succ F ih =>
    intro k y9 ht hp hF hy
    rw [f_M_stand_25]
    refine ok_ite (fun g => ok_some (if_pos g).symm) (fun g => ?_)
    rw [if_neg g]
    have w := W.2.1
    have ht1 := ht.1
    have ht2 := ht.2
    refine ok_ite (fun g2 => ok_some ?_) (fun g2 => ?_)
    · have : k = 0 := by omega
      subst this
      rw [clb_0]
      exact hy.resolve_left g
    · have hb := par_b W ht hp (by omega)
      have t2 := (T.2 k (by omega) (by omega)).2
      rw [t2]
      refine ok_grd (by omega) (ok_grd (by (first | omega | (unfold r32; omega) | (unfold r64; omega) | (simp only [r32, r64] at *; omega))) (ok_eqb (e_M_after W T (q := a.par k) (f := k + 1) (by omega) (by omega)) (ok_grd (by omega) ?_)))
      have ab := aft_b W (a.par k) (k + 1)
      rw [clb_s W ht hp (by omega)]
      exact ih (a.par k) _ ⟨hb.1, by omega⟩ hb.2.2 (by omega) (by rcases ab with z | z <;> omega)
def stS (σ : Hp) (row : Int → Int) (k : Nat) : Hp := fun q j => if q = 145 then plF row (σ 145) k j else σ q j
theorem st_q {row : Int → Int} {k q : Nat} (h : q ≠ 145) : stS σ row k q = σ q := by funext j; unfold stS; rw [if_neg h]
theorem st_0 (row : Int → Int) : stS σ row 0 = σ := by
  funext q j; unfold stS
  by_cases h : q = 145
  · rw [if_pos h, h]; rfl
  · rw [if_neg h]
theorem st_s (row : Int → Int) (k : Nat) : hset (stS σ row k) 145 (row k) k = stS σ row (k + 1) := by
  funext q j
  by_cases h : q = 145
  · subst h
    rw [hs_if]
    unfold stS
    rw [if_pos rfl, if_pos rfl]
    rfl
  · rw [hset_ne h, st_q h, st_q h]
theorem e_M_stand (W : WT a) (T : tmv σ a) {row : Int → Int} {c : Int} (C : Chn a row c) : f_M_stand σ = some (stS σ row c.toNat) := by
  have c0 : 0 < c ∧ c ≤ 12 := C 0
  have c1 : row 0 = 0 := C 1
  have c2 : ∀ i : Int, 0 ≤ i → i < c → thr a 0 (row i) ∧ isP a 0 (row i) := C 2
  have c3 : ∀ i : Int, 0 ≤ i → i + 1 < c → nxt a (row i) = row (i + 1) := C 3
  have c4 : nxt a (row (c - 1)) = -1 := C 4
  have w := W.2.1
  have L : ∀ (F k : Nat), (k : Int) ≤ c → c - k < F → Okk (f_M_stand_4 F (if (k : Int) < c then row k else -1) k (stS σ row k)) fun r => r.2.2 = stS σ row c.toNat := by
    intro F
    induction F with
    | zero => intro k k1 hF; omega
    | succ F ih =>
      intro k k1 hF
      rw [f_M_stand_4]
      by_cases g : (k : Int) < c
      · have hr := c2 k (by omega) g
        have hr1 := hr.1.1
        have hr2 := hr.1.2
        rw [if_pos g, if_neg (by omega)]
        have T' : tmv (hset (stS σ row k) 145 (row k) k) a := ⟨by rw [hset_ne (by omega), st_q (by omega)]; exact T.1, fun j j0 j1 => by rw [hset_ne (by omega), hset_ne (by omega), st_q (by omega), st_q (by omega)]; exact T.2 j j0 j1⟩
        refine ok_grd (by omega) (ok_grd (by (first | omega | (unfold r32; omega) | (unfold r64; omega) | (simp only [r32, r64] at *; omega))) (ok_eqb (e_M_after W T' (q := row k) (f := 0) (by omega) (by omega)) ?_))
        have ab := aft_b W (row k) 0
        refine ok_call (l_stand25 W T' zFuel (row k) _ hr.1 hr.2 (by unfold zFuel; omega) (by rcases ab with z | z <;> omega)) ?_
        intro r hr'
        have en : r.2 = nxt a (row k) := hr'
        have e2 : nxt a (row k) = if ((k + 1 : Nat) : Int) < c then row ((k + 1 : Nat) : Int) else -1 := by
          by_cases z : ((k + 1 : Nat) : Int) < c
          · rw [if_pos z]; exact c3 k (by omega) (by omega)
          · rw [if_neg z, show (k : Int) = c - 1 by omega]; exact c4
        rw [en, e2, st_s, show ((k : Int) + 1) = ((k + 1 : Nat) : Int) by omega]
        exact ih (k + 1) (by omega) (by omega)
      · rw [if_neg g, if_pos (by omega)]
        refine ok_some ?_
        dsimp only
        rw [show k = c.toNat by omega]
  unfold f_M_stand
  apply ok_eq
  have L0 := L zFuel 0 (by omega) (by unfold zFuel; omega)
  rw [if_pos (by omega), st_0] at L0
  have e0 : row ((0 : Nat) : Int) = 0 := c1
  rw [e0] at L0
  exact ok_call L0 (fun r hr => ok_some hr)
end

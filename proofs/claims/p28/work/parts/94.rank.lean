/-! ===== members by rank ===== -/
section
variable {σ : Hp} {a a' b : Ab} {n : Nat} {B : Int} {e : Nat}
def bef (v : Int → Int) (y y' : Int) : Prop := v y' < v y ∨ (v y = v y' ∧ y < y')
def Arr (v : Int → Int) (P : Int → Prop) (row : Int → Int) (c : Int) : Prop := 0 ≤ c ∧ (∀ i : Int, 0 ≤ i → i < c → P (row i)) ∧ (∀ y : Int, P y → ∃ i : Int, 0 ≤ i ∧ i < c ∧ row i = y) ∧ ∀ i j : Int, 0 ≤ i → i < j → j < c → bef v (row i) (row j)
theorem arr_ins {v : Int → Int} {P : Int → Prop} {row row' : Int → Int} {c t y : Int} (A : Arr v P row c) (hy : ∀ y' : Int, P y' → y' < y) (t0 : 0 ≤ t) (t1 : t ≤ c) (h1 : ∀ i : Int, 0 ≤ i → i < t → row' i = row i) (h2 : row' t = y) (h3 : ∀ i : Int, t < i → i ≤ c → row' i = row (i - 1)) (h4 : ∀ i : Int, t ≤ i → i < c → v (row i) < v y) (h5 : 0 < t → v y ≤ v (row (t - 1))) : Arr v (fun z => P z ∨ z = y) row' (c + 1) := by
  obtain ⟨a0, a1, a2, a3⟩ := A
  have up : ∀ i : Int, 0 ≤ i → i < t → v y ≤ v (row i) := fun i i0 i1 => by
    have g := h5 (by omega)
    by_cases z : i = t - 1
    · rw [z]; exact g
    · rcases a3 i (t - 1) i0 (by omega) (by omega) with q | q <;> omega
  refine ⟨by omega, fun i i0 i1 => ?_, fun y' hy' => ?_, fun i j i0 ij j1 => ?_⟩
  · rcases Int.lt_trichotomy i t with g | g | g
    · rw [h1 i i0 g]; exact Or.inl (a1 i i0 (by omega))
    · rw [g, h2]; exact Or.inr rfl
    · rw [h3 i g (by omega)]; exact Or.inl (a1 (i - 1) (by omega) (by omega))
  · rcases hy' with hy' | hy'
    · obtain ⟨i, i0, i1, i2⟩ := a2 y' hy'
      by_cases g : i < t
      · exact ⟨i, i0, by omega, by rw [h1 i i0 g]; exact i2⟩
      · exact ⟨i + 1, by omega, by omega, by rw [h3 (i + 1) (by omega) (by omega), show i + 1 - 1 = i by omega]; exact i2⟩
    · exact ⟨t, t0, by omega, by rw [h2, hy']⟩
  · rcases Int.lt_trichotomy j t with g | g | g
    · rw [h1 i i0 (by omega), h1 j (by omega) g]; exact a3 i j i0 ij (by omega)
    · rw [h1 i i0 (by omega), g, h2]
      have u := up i i0 (by omega)
      have w := hy (row i) (a1 i i0 (by omega))
      unfold bef
      by_cases z : v y < v (row i)
      · exact Or.inl z
      · exact Or.inr ⟨by omega, w⟩
    · rw [h3 j g (by omega)]
      rcases Int.lt_trichotomy i t with q | q | q
      · rw [h1 i i0 q]; exact a3 i (j - 1) i0 (by omega) (by omega)
      · rw [q, h2]; exact Or.inl (h4 (j - 1) (by omega) (by omega))
      · rw [h3 i q (by omega)]; exact a3 (i - 1) (j - 1) (by omega) (by omega) (by omega)
/-- a value is ranked -/
theorem c_rank {s : Hp} {p : Nat} (hp : p ≤ 62) {c y x : Int} (c0 : 0 ≤ c) (c1 : c < 12) : Okk (f_R_rank s p c y x) fun u => (∀ q : Nat, q ≠ 124 → q ≠ p + 12 → u q = s q) ∧ ∃ t : Int, 0 ≤ t ∧ t ≤ c ∧ (∀ i : Int, i < t → u (p + 12) i = s (p + 12) i ∧ u 124 i = s 124 i) ∧ (u (p + 12) t = y ∧ u 124 t = x) ∧ (∀ i : Int, t < i → i ≤ c → u (p + 12) i = s (p + 12) (i - 1) ∧ u 124 i = s 124 (i - 1)) ∧ (∀ i : Int, c < i → u (p + 12) i = s (p + 12) i) ∧ (∀ i : Int, t ≤ i → i < c → s 124 i < x) ∧ (0 < t → x ≤ s 124 (t - 1)) := by
  have L : ∀ (F : Nat) (t : Int) (u : Hp), 0 ≤ t → t ≤ c → t < F → (∀ q : Nat, q ≠ 124 → q ≠ p + 12 → u q = s q) → (∀ i : Int, i ≤ t → u (p + 12) i = s (p + 12) i ∧ u 124 i = s 124 i) → (∀ i : Int, t < i → i ≤ c → u (p + 12) i = s (p + 12) (i - 1) ∧ u 124 i = s 124 (i - 1)) → (∀ i : Int, c < i → u (p + 12) i = s (p + 12) i) → (∀ i : Int, t ≤ i → i < c → s 124 i < x) → Okk (f_R_rank_3 p x F t u) fun r => 0 ≤ r.1 ∧ r.1 ≤ c ∧ (∀ q : Nat, q ≠ 124 → q ≠ p + 12 → r.2 q = s q) ∧ (∀ i : Int, i < r.1 → r.2 (p + 12) i = s (p + 12) i ∧ r.2 124 i = s 124 i) ∧ (∀ i : Int, r.1 < i → i ≤ c → r.2 (p + 12) i = s (p + 12) (i - 1) ∧ r.2 124 i = s 124 (i - 1)) ∧ (∀ i : Int, c < i → r.2 (p + 12) i = s (p + 12) i) ∧ (∀ i : Int, r.1 ≤ i → i < c → s 124 i < x) ∧ (0 < r.1 → x ≤ s 124 (r.1 - 1)) := by
    intro F
    induction F with
    | zero => intro t u t0 t1 hF; omega
    | succ F ih =>
      intro t u t0 t1 hF E h1 h2 h3 h4
      rw [f_R_rank_3]
      refine ok_ite (fun g => ok_some ⟨t0, t1, E, fun i hi => h1 i (by omega), h2, h3, h4, fun z => by dsimp only at z; omega⟩) (fun g => ok_grd (by (first | omega | (unfold r32; omega) | (unfold r64; omega) | (simp only [r32, r64] at *; omega))) (ok_grd (by omega) ?_))
      have e1 := h1 (t - 1) (by omega)
      refine ok_ite (fun q => ok_some ⟨t0, t1, E, fun i hi => h1 i (by omega), h2, h3, h4, fun z => ?_⟩) (fun q => ?_)
      · rw [e1.2] at q; exact lcm_ge.mp q
      · have q' : s 124 (t - 1) < x := by
          rw [e1.2] at q
          exact Classical.byContradiction (fun z => q (lcm_ge.mpr (by omega)))
        have e2 : (hset u 124 t (u 124 (t - 1))) (p + 12) (t - 1) = u (p + 12) (t - 1) := by rw [hset_ne (by omega)]
        rw [e2]
        refine ok_grd (by (first | omega | (unfold r32; omega) | (unfold r64; omega) | (simp only [r32, r64] at *; omega))) (ok_grd (by omega) (ok_grd (by omega) (ok_grd (by (first | omega | (unfold r32; omega) | (unfold r64; omega) | (simp only [r32, r64] at *; omega))) (ok_grd (by omega) (ok_grd (by omega) (ok_grd (by (first | omega | (unfold r32; omega) | (unfold r64; omega) | (simp only [r32, r64] at *; omega))) ?_))))))
        rw [show t + (-1) = t - 1 by omega]
        refine ih (t - 1) _ (by omega) (by omega) (by omega) (fun q q1 q2 => by rw [hset_ne q2, hset_ne q1]; exact E q q1 q2) (fun i hi => ?_) (fun i hi hi2 => ?_) (fun i hi => ?_) (fun i hi hi2 => ?_)
        · rw [hs_nj (by omega), hset_ne (by omega), hset_ne (by omega), hs_nj (by omega)]
          exact h1 i (by omega)
        · by_cases z : i = t
          · rw [z, hs_eq, hset_ne (by omega), hs_eq]; exact e1
          · rw [hs_nj z, hset_ne (by omega), hset_ne (by omega), hs_nj z]
            exact h2 i (by omega) hi2
        · rw [hs_nj (by omega), hset_ne (by omega)]; exact h3 i hi
        · by_cases z : i = t - 1
          · rw [z]; exact q'
          · exact h4 i (by omega) hi2
  unfold f_R_rank
  refine ok_call (L zFuel c s c0 (Int.le_refl _) (by unfold zFuel; omega) (fun _ _ _ => rfl) (fun _ _ => ⟨rfl, rfl⟩) (fun i hi hi2 => by omega) (fun _ _ => rfl) (fun i hi hi2 => by omega)) ?_
  rintro r ⟨r0, r1, r2, r3, r4, r5, r6, r7⟩
  refine ok_grd (by omega) (ok_grd (by omega) (ok_some ⟨fun q q1 q2 => by rw [hset_ne q2, hset_ne q1]; exact r2 q q1 q2, r.1, r0, r1, fun i hi => ?_, ⟨hs_eq, by rw [hset_ne (by omega)]; exact hs_eq⟩, fun i hi hi2 => ?_, fun i hi => ?_, r6, r7⟩))
  · rw [hs_nj (by omega), hset_ne (by omega), hset_ne (by omega), hs_nj (by omega)]; exact r3 i hi
  · rw [hs_nj (by omega), hset_ne (by omega), hset_ne (by omega), hs_nj (by omega)]; exact r4 i hi hi2
  · rw [hs_nj (by omega), hset_ne (by omega)]; exact r5 i hi
end

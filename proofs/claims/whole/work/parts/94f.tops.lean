section
variable {σ : Hp} {a a' b : Ab} {n : Nat} {B : Int} {e : Nat} {d m : Int}
/-- the bits of those picked -/
theorem m_tops12 {s : Hp} {rw' : Int → Int} {N : Int} (hd : inD d) (N0 : 0 ≤ N) (N1 : N ≤ 12) (h164 : ∀ i : Int, 0 ≤ i → i < N → s 164 (12 * d + i) = rw' i) (hr : ∀ i : Int, 0 ≤ i → i < N → 0 ≤ rw' i ∧ rw' i < 12) : Okk (f_M_tops_12 s d N zFuel 0 0) fun r => 0 ≤ r.1 ∧ r.1 < 4096 ∧ ∀ j : Int, 0 ≤ j → (bitP r.1 j ↔ ∃ i : Int, 0 ≤ i ∧ i < N ∧ rw' i = j) := by
  have hd' := inD_b hd
  have L : ∀ (F : Nat) (k x : Int), 0 ≤ k → k ≤ N → N - k < F → 0 ≤ x → x < 4096 → (∀ j : Int, 0 ≤ j → (bitP x j ↔ ∃ i : Int, 0 ≤ i ∧ i < k ∧ rw' i = j)) → Okk (f_M_tops_12 s d N F x k) fun r => 0 ≤ r.1 ∧ r.1 < 4096 ∧ ∀ j : Int, 0 ≤ j → (bitP r.1 j ↔ ∃ i : Int, 0 ≤ i ∧ i < N ∧ rw' i = j) := by
    intro F
    induction F with
    | zero => intro k x k0 k1 hF; omega
    | succ F ih =>
      intro k x k0 k1 hF x0 x1 hb
      rw [f_M_tops_12]
      refine ok_ite (fun g => ok_some ⟨x0, x1, by rw [show N = k by omega]; exact hb⟩) (fun g => ok_grd (by (first | omega | (unfold r32; omega) | (unfold r64; omega) | (simp only [r32, r64] at *; omega))) (ok_grd (by (first | omega | (unfold r32; omega) | (unfold r64; omega) | (simp only [r32, r64] at *; omega))) (ok_grd (by omega) (ok_grd (by (first | omega | (unfold r32; omega) | (unfold r64; omega) | (simp only [r32, r64] at *; omega))) ?_))))
      have hk := hr k k0 (by omega)
      have o := or_r x0 x1 hk.1 hk.2
      rw [h164 k k0 (by omega)]
      refine ih (k + 1) _ (by omega) (by omega) (by omega) o.1 o.2.1 (fun j j0 => ?_)
      rw [o.2.2 j j0, hb j j0]
      constructor
      · rintro (⟨i, i0, i1, i2⟩ | h)
        · exact ⟨i, i0, by omega, i2⟩
        · exact ⟨k, k0, by omega, h.symm⟩
      · rintro ⟨i, i0, i1, i2⟩
        by_cases w : i = k
        · exact Or.inr (by rw [← i2, w])
        · exact Or.inl ⟨i, i0, by omega, i2⟩
  refine L zFuel 0 0 (by omega) N0 (by unfold zFuel; omega) (by omega) (by omega) (fun j j0 => ⟨fun h => ?_, fun h => ?_⟩)
  · have : ¬ bitP 0 j := by unfold bitP; simp
    exact absurd h this
  · obtain ⟨i, i0, i1, _⟩ := h; omega
end

section
variable {σ : Hp} {a a' b : Ab} {n : Nat} {B : Int} {e : Nat} {d m : Int}
theorem kt_0 {s : Hp} {N : Int} {yv : Int → Int} (h4 : ∀ i : Int, 0 ≤ i → i < N → s (dP d + 12) i = yv i) (F : ktF σ s d N) (M : RM s a m) (h8 : s 116 4 = σ 116 4 + 1) : KT σ s a m d N yv 0 0 := by
  refine ⟨⟨by omega, by omega⟩, ⟨by omega, fun i i0 i1 => by omega, fun y hy => ?_, fun i j i0 ij j1 => by omega⟩, fun i i0 i1 => by omega, h4, fun i i0 i1 => ⟨i, i0, i1, h4 i i0 i1⟩, F, M, h8⟩
  obtain ⟨⟨i, i0, i1, _⟩, _⟩ := hy
  omega
/-- the class's top members: s is what is left, c of them have a value -/
theorem c_keepTop (W : WFA a) (K : WFW a) (m0 : 0 ≤ m) (m1 : m < a.measures) (R : ICR σ a) (hf : fok σ a n) (hd : inD d) {N : Int} (N0 : 0 ≤ N) (N1 : N ≤ 12) {yv : Int → Int} (hy : ∀ i : Int, 0 ≤ i → i < N → thr a d (yv i) ∧ isP a d (yv i)) (asc : ∀ i j : Int, 0 ≤ i → i < j → j < N → yv i < yv j) {s0 : Hp} (h0 : KT σ s0 a m d N yv 0 0) (hdim : f_S_dimension s0 d = some (dP d)) (top : Int) : Okk (f_R_keepTop s0 d top) fun r => ∃ (s : Hp) (c : Int), r = hset s (dP d) 2 (min c top) ∧ KT σ s a m d N yv N c := by
  have hN : s0 (dP d) 2 = N := h0.2.2.2.2.2.1.2.2.1
  unfold f_R_keepTop
  refine ok_eqb hdim ?_
  refine ok_call (c_top21 (n := n) W K m0 m1 R hf hd N0 N1 hy asc hN zFuel 0 0 s0 (by omega) N0 (by unfold zFuel; omega) h0) ?_
  intro r hr
  exact ok_some ⟨r.2.2, r.1, rfl, hr⟩
end

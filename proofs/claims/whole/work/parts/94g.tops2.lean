section
variable {σ : Hp} {a a' b : Ab} {n : Nat} {B : Int} {e : Nat} {d m : Int}
theorem m_wD {y : Int} (hd : inD d) {s : Hp} (V : Vw s a) : (if d ≠ 0 then grd (0 ≤ (0 : Int) ∧ (0 : Int) < 3) <| some (s 163 0) else some y : Option (Int)) = some (wD d y (chC a)).1 ∧ (if d ≠ 1 then grd (0 ≤ (1 : Int) ∧ (1 : Int) < 3) <| some (s 163 1) else some y : Option (Int)) = some (wD d y (chC a)).2.1 ∧ (if d ≠ 2 then grd (0 ≤ (2 : Int) ∧ (2 : Int) < 3) <| some (s 163 2) else some y : Option (Int)) = some (wD d y (chC a)).2.2 := by
  have e163 : ∀ k : Int, s 163 k = a.chos k := fun k => V 163 k (by unfold vwP; omega)
  simp only [e163]
  unfold wD withD chC
  rcases hd with rfl | rfl | rfl <;> simp [grd]
theorem m_with (W : WFA a) (K : WFW a) (m0 : 0 ≤ m) (m1 : m < a.measures) (hd : inD d) {y : Int} (hy : thr a d y) {s : Hp} (M : MS s a) (hb : s 129 46 = 0) : Okk (f_M_with s d y m) fun r => r.1 = mV a m d y ∧ MS r.2 a ∧ vch 0 s r.2 ∧ r.2 129 46 = 0 := by
  have c1 : cin3 a (wD d y (chC a)) := wD_in hd hy (chC_in W)
  have cc := m_wD (y := y) hd M.1
  unfold f_M_with
  refine ok_eqb cc.1 (ok_eqb cc.2.1 (ok_eqb cc.2.2 ?_))
  refine ok_call (e_M_ask W K m0 m1 c1 M hb) ?_
  rintro r ⟨r1, r2, r3, r4⟩
  exact ok_some ⟨r1, r2, r3, r4⟩
end

/-! ===== fact, forget ===== -/
section
variable {σ : Hp} {a b : Ab} {n : Nat} {B : Int} {e : Nat}
def isF (a : Ab) (t x y m f : Int) : Prop := a.ft f = t ∧ a.fa f = x ∧ a.fb f = y ∧ a.fm f = m
theorem isF_u (W : WFA a) {t x y m f g : Int} (f0 : 0 ≤ f) (f1 : f < a.facts) (g0 : 0 ≤ g) (g1 : g < a.facts) (hf : isF a t x y m f) (hg : isF a t x y m g) : f = g := (show ∀ f g : Int, 0 ≤ f → f < a.facts → 0 ≤ g → g < a.facts → a.ft f = a.ft g → a.fa f = a.fa g → a.fb f = a.fb g → a.fm f = a.fm g → f = g from W 18) f g f0 f1 g0 g1 (hf.1.trans hg.1.symm) (hf.2.1.trans hg.2.1.symm) (hf.2.2.1.trans hg.2.2.1.symm) (hf.2.2.2.trans hg.2.2.2.symm)
theorem e_FR_find (W : WFA a) (H : ICF σ a) {t x y m : Int} (h : cin a t x y) : Okk (f_FR_find σ (clq t x y) m) fun r => (r = -1 ∧ ∀ f : Int, 0 ≤ f → f < a.facts → ¬ isF a t x y m f) ∨ (0 ≤ r ∧ r < a.facts ∧ isF a t x y m r) := by
  have hF0 : σ 101 0 = a.facts ∧ ∀ f : Int, 0 ≤ f → f < a.facts → σ 102 f = 144 * a.ft f + 12 * a.fa f + a.fb f ∧ σ 103 f = a.fm f ∧ σ 104 f = a.fv f := H 0
  have h12 : 0 ≤ a.facts ∧ a.facts ≤ 50 ∧ _ := W 12
  have L : ∀ (F : Nat) (k : Int), 0 ≤ k → k ≤ a.facts → a.facts - k < F → (∀ f : Int, 0 ≤ f → f < k → ¬ isF a t x y m f) → Okk (f_FR_find_2 σ (clq t x y) m F k) fun r => (r = -1 ∧ ∀ f : Int, 0 ≤ f → f < a.facts → ¬ isF a t x y m f) ∨ (0 ≤ r ∧ r < a.facts ∧ isF a t x y m r) := by
    intro F
    induction F with
    | zero => intro k k0 k1 hF; omega
    | succ F ih =>
      intro k k0 k1 hF hno
      rw [f_FR_find_2, hF0.1]
      refine ok_ite (fun g => ok_some (Or.inl ⟨rfl, fun f f0 f1 => hno f f0 (by omega)⟩)) (fun g => ok_grd (by omega) ?_)
      have r := hF0.2 k k0 (by omega)
      have hf := fct W k0 (by omega : k < a.facts)
      have nx : ¬ isF a t x y m k → Okk (grd (r32 (k + 1)) <| f_FR_find_2 σ (clq t x y) m F (k + 1)) fun r => (r = -1 ∧ ∀ f : Int, 0 ≤ f → f < a.facts → ¬ isF a t x y m f) ∨ (0 ≤ r ∧ r < a.facts ∧ isF a t x y m r) := fun hn => ok_grd (by (first | omega | (unfold r32; omega) | (unfold r64; omega) | (simp only [r32, r64] at *; omega))) (ih (k + 1) (by omega) (by omega) (by omega) (fun f f0 f1 => by
        by_cases q : f = k
        · rw [q]; exact hn
        · exact hno f f0 (by omega)))
      rw [r.1, r.2.1]
      refine ok_ite (fun q => nx (fun p => q ?_)) (fun q => ok_grd (by omega) (ok_ite (fun q2 => nx (fun p => q2 p.2.2.2)) (fun q2 => ok_some (Or.inr ⟨k0, by omega, ?_⟩))))
      · unfold clq; rw [p.1, p.2.1, p.2.2.1]
      · have hc : clq (a.ft k) (a.fa k) (a.fb k) = clq t x y := Classical.not_not.mp q
        have hi := clq_i W ⟨hf.1.1, hf.2.1.1, hf.2.2.1.1⟩ h hc
        exact ⟨hi.1, hi.2.1, hi.2.2, Classical.not_not.mp q2⟩
  exact L zFuel 0 (by omega) (by omega) (by unfold zFuel; omega) (fun f f0 f1 => by omega)
theorem drA_n (pt px py fm : Int) : Ab.facts (drA a pt px py fm) = a.facts := by unfold drA Ab.facts; exact sA_j (by omega)
end

/-! ===== forget ===== -/
section
variable {σ : Hp} {a b : Ab} {n : Nat} {B : Int} {e : Nat}
def remA (a : Ab) (f : Int) : Ab := fun q j => if 150 ≤ q ∧ q ≤ 154 ∧ f ≤ j ∧ j < a.facts - 1 then a q (j + 1) else if q = 129 ∧ j = 29 then a.facts - 1 else a q j
section
variable {f : Int}
theorem rm_q {q : Nat} (h : q < 129 ∨ (129 < q ∧ q < 150) ∨ 154 < q) : remA a f q = a q := by
  funext j; unfold remA; rw [if_neg (by omega), if_neg (by omega)]
theorem rm_j {j : Int} (h : j ≠ 29) : remA a f 129 j = a 129 j := by unfold remA; rw [if_neg (by omega), if_neg (by omega)]
theorem rm_n : Ab.facts (remA a f) = a.facts - 1 := by unfold Ab.facts remA; rw [if_neg (by omega), if_pos ⟨rfl, rfl⟩]; rfl
theorem rm_i {q : Nat} (h : 150 ≤ q ∧ q ≤ 154) {i : Int} (h1 : i < a.facts - 1) : remA a f q i = tak f (a q) i := by
  unfold remA
  by_cases l : i < f
  · rw [if_neg (by omega), if_neg (by omega), tak_l l]
  · rw [if_pos ⟨h.1, h.2, by omega, h1⟩, tak_g (by omega)]
theorem rm_FB : FB a (remA a f) := ⟨⟨⟨fun q hq => rm_q (by omega), rm_j (by omega)⟩, ⟨rm_q (by omega), rm_q (by omega), rm_q (by omega), rm_q (by omega), rm_j (by omega)⟩, ⟨rm_j (by omega), rm_j (by omega)⟩⟩, ⟨rm_q (by omega), rm_q (by omega), rm_q (by omega)⟩, ⟨rm_q (by omega), rm_q (by omega), rm_q (by omega), rm_q (by omega)⟩, fun q h1 h2 => rm_q (by omega), rm_j (by omega), rm_q (by omega), rm_j (by omega), rm_j (by omega)⟩
theorem rm_t {i : Int} (h : i < a.facts - 1) : Ab.ft (remA a f) i = tak f a.ft i ∧ Ab.fa (remA a f) i = tak f a.fa i ∧ Ab.fb (remA a f) i = tak f a.fb i ∧ Ab.fm (remA a f) i = tak f a.fm i ∧ Ab.fv (remA a f) i = tak f a.fv i := ⟨rm_i (by omega) h, rm_i (by omega) h, rm_i (by omega) h, rm_i (by omega) h, rm_i (by omega) h⟩
end
theorem tak_s {f : Int} {c : Int → Int} (i : Int) : tak f c i = c (if i < f then i else i + 1) := by
  by_cases l : i < f
  · rw [tak_l l, if_pos l]
  · rw [tak_g (by omega), if_neg l]
theorem rm_W (W : WFA a) {f : Int} (f0 : 0 ≤ f) (f1 : f < a.facts) : WFA (remA a f) := by
  have h130 : Ab.many (remA a f) = a.many := rm_q (by omega)
  have h131 : Ab.kind (remA a f) = a.kind := rm_q (by omega)
  have h146 : Ab.mk (remA a f) = a.mk := rm_q (by omega)
  have hm : Ab.measures (remA a f) = a.measures := rm_j (by omega)
  refine FB_W W rm_FB ?_ ?_
  · have := W 12
    simp only [wfa, thr, isP, h130, h131, h146, hm, rm_n] at this ⊢
    refine ⟨by omega, by omega, fun i i0 i1 => ?_⟩
    obtain ⟨g0, g1, g2, g3, g4⟩ := rm_t (a := a) (f := f) (i := i) i1
    rw [g0, g1, g2, g3, g4, tak_s, tak_s, tak_s, tak_s, tak_s]
    have hb : 0 ≤ (if i < f then i else i + 1) ∧ (if i < f then i else i + 1) < a.facts := by
      by_cases l : i < f
      · rw [if_pos l]; omega
      · rw [if_neg l]; omega
    exact this.2.2 _ hb.1 hb.2
  · have h18 : ∀ f g : Int, 0 ≤ f → f < a.facts → 0 ≤ g → g < a.facts → a.ft f = a.ft g → a.fa f = a.fa g → a.fb f = a.fb g → a.fm f = a.fm g → f = g := W 18
    intro i k
    rw [rm_n]
    intro i0 i1 k0 k1
    obtain ⟨g0, g1, g2, g3, g4⟩ := rm_t (a := a) (f := f) (i := i) i1
    obtain ⟨p0, p1, p2, p3, p4⟩ := rm_t (a := a) (f := f) (i := k) k1
    rw [g0, g1, g2, g3, p0, p1, p2, p3, tak_s, tak_s, tak_s, tak_s, tak_s, tak_s, tak_s, tak_s]
    intro e0 e1 e2 e3
    have hb : ∀ i : Int, 0 ≤ i → i < a.facts - 1 → 0 ≤ (if i < f then i else i + 1) ∧ (if i < f then i else i + 1) < a.facts := fun i i0 i1 => by
      by_cases l : i < f
      · rw [if_pos l]; omega
      · rw [if_neg l]; omega
    have r := h18 _ _ (hb i i0 i1).1 (hb i i0 i1).2 (hb k k0 k1).1 (hb k k0 k1).2 e0 e1 e2 e3
    by_cases l : i < f <;> by_cases l' : k < f
    · rw [if_pos l, if_pos l'] at r; exact r
    · rw [if_pos l, if_neg l'] at r; omega
    · rw [if_neg l, if_pos l'] at r; omega
    · rw [if_neg l, if_neg l'] at r; omega
end

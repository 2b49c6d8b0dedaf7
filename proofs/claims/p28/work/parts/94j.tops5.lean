section
variable {σ : Hp} {a a' b : Ab} {n : Nat} {B : Int} {e : Nat} {d m : Int} {row : Int → Int}
/-- row with the first t of cr in dimension d -/
def tpR (d : Int) (row cr : Int → Int) (t : Int) : Int → Int := fun j => if 12 * d ≤ j ∧ j < 12 * d + t then cr (j - 12 * d) else row j
theorem tpR_i {cr : Int → Int} {t i : Int} (h : 0 ≤ i ∧ i < t) : tpR d row cr t (12 * d + i) = cr i := by
  unfold tpR; rw [if_pos (by omega), show 12 * d + i - 12 * d = i by omega]
theorem tpR_o {cr : Int → Int} {t j : Int} (h : ¬ (12 * d ≤ j ∧ j < 12 * d + t)) : tpR d row cr t j = row j := if_neg h
theorem tpR_W {cr : Int → Int} {t : Int} (W : WFA a) (hd : inD d) (hr : rwW a row) (t1 : t ≤ 12) (hc : ∀ i : Int, 0 ≤ i → i < t → thr a d (cr i) ∧ isP a d (cr i)) : rwW a (tpR d row cr t) := by
  intro d' i hd' i0 i1
  have pb := pck_b W hd'
  by_cases h : 12 * d ≤ 12 * d' + i ∧ 12 * d' + i < 12 * d + t
  · have e : d' = d := by omega
    subst e
    rw [tpR_i ⟨i0, by omega⟩]; exact hc i i0 (by omega)
  · rw [tpR_o h]; exact hr d' i hd' i0 i1
theorem bef_n {v : Int → Int} {x y : Int} (h1 : bef v x y) (h2 : bef v y x) : False := by
  unfold bef at h1 h2; omega
theorem bef_i {v : Int → Int} {x : Int} (h1 : bef v x x) : False := bef_n h1 h1
end

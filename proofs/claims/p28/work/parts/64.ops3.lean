/-! ===== from, measure, word ===== -/
section
variable {σ : Hp} {a a' : Ab} {n : Nat} {B : Int} {e : Nat}
theorem ICM_e {s : Hp} (E : ∀ q : Nat, 95 ≤ q → q ≤ 100 → s q = σ q) (H : ICM σ a) : ICM s a := by
  intro k
  have g := H k
  match k, g with
  | 0, g => simp only [icm, E 95 (by omega) (by omega)] at g ⊢; exact g
  | 1, g => simp only [icm, E 96 (by omega) (by omega), E 97 (by omega) (by omega), E 98 (by omega) (by omega)] at g ⊢; exact g
  | 2, g => simp only [icm, E 99 (by omega) (by omega)] at g ⊢; exact g
  | 3, g => simp only [icm, E 100 (by omega) (by omega)] at g ⊢; exact g
  | _ + 4, _ => trivial
theorem ICF_e {s : Hp} (E : ∀ q : Nat, 101 ≤ q → q ≤ 107 → s q = σ q) (H : ICF σ a) : ICF s a := by
  intro k
  have g := H k
  match k, g with
  | 0, g => simp only [icf, E 101 (by omega) (by omega), E 102 (by omega) (by omega), E 103 (by omega) (by omega), E 104 (by omega) (by omega)] at g ⊢; exact g
  | 1, g => simp only [icf, E 101 (by omega) (by omega)] at g ⊢; exact g
  | 2, g => simp only [icf, E 101 (by omega) (by omega), E 105 (by omega) (by omega), E 106 (by omega) (by omega), E 107 (by omega) (by omega)] at g ⊢; exact g
  | _ + 3, _ => trivial
theorem ICT_e {s : Hp} (E : ∀ q : Nat, 92 ≤ q → q ≤ 94 → s q = σ q) (H : ICT σ a) : ICT s a := by
  intro k
  have g := H k
  match k, g with
  | 0, g => exact ict_c0 (E 92 (by omega) (by omega)) (E 93 (by omega) (by omega)) g
  | 1, g => exact ict_c1 (E 94 (by omega) (by omega)) g
  | _ + 2, _ => trivial
/-- the members as they were; measures and facts shown by themselves -/
theorem ICR_pm {s : Hp} (W : WFA a) (S : smem a a') (P : spk a a') (h4 : a'.asNow = a.asNow ∧ a'.leave = a.leave) (E : ∀ q : Nat, q < 95 → s q = σ q) (hM : ICM s a') (hF : ICF s a') (R : ICR σ a) : ICR s a' := ⟨ICD_s S P (ICD_f W (fun q _ _ => E q (by omega)) R.1), ICD_s S P (ICD_f W (fun q _ _ => E q (by omega)) R.2.1), ICD_s S P (ICD_f W (fun q _ _ => E q (by omega)) R.2.2.1), ICT_s W S (ICT_e (fun q _ _ => E q (by omega)) R.2.2.2.1), by rw [E 1 (by omega), h4.1, h4.2]; exact R.2.2.2.2.1, hM, hF⟩
theorem frs_S {b : Ab} (S : smem a b) : smem a (frs b) := ⟨fun q hq => by rw [frs_q (by omega)]; exact S.1 q hq, by show frs b 129 15 = a 129 15; rw [frs_j (by omega)]; exact S.2⟩
end

/-- what a dimension is told, without what follows -/
def told (σ : Hp) (a : Ab) (p : Nat) (d : Int) : Prop := icd σ a p d 0 ∧ icd σ a p d 1 ∧ icd σ a p d 2 ∧ icd σ a p d 3 ∧ icd σ a p d 4 ∧ icd σ a p d 5 ∧ icd σ a p d 6 ∧ icd σ a p d 7 ∧ icd σ a p d 13 ∧ σ (p + 13) 0 = -1 ∧ σ (p + 14) 0 = 0 ∧ σ (p + 15) 0 = 1
theorem told_f {σ σ' : Hp} {a : Ab} {p : Nat} {d : Int} (h : ∀ q : Nat, p ≤ q → q ≤ p + 15 → σ' q = σ q) (H : told σ a p d) : told σ' a p d := by
  obtain ⟨h0, h1, h2, h3, h4, h5, h6, h7, h13, z1, z2, z3⟩ := H
  refine ⟨icd_c0 (h _ ?_ ?_) h0, icd_c1 (h _ ?_ ?_) h1, icd_c2 (h _ ?_ ?_) (h _ ?_ ?_) h2, icd_c3 (h _ ?_ ?_) h3, icd_c4 (h _ ?_ ?_) (h _ ?_ ?_) h4, icd_c5 (h _ ?_ ?_) h5, icd_c6 (h _ ?_ ?_) h6, icd_c7 (h _ ?_ ?_) h7, icd_c13 (h _ ?_ ?_) (h _ ?_ ?_) (h _ ?_ ?_) (h _ ?_ ?_) h13, ?_, ?_, ?_⟩
  all_goals first | omega | (rw [h _ (by omega) (by omega)]; assumption)
theorem ICD_all {σ σ' : Hp} {a : Ab} {p : Nat} {d : Int} (H : told σ a p d) (hs : ∀ q : Nat, ¬ (p + 13 ≤ q ∧ q ≤ p + 29) → σ' q = σ q) (h8 : icd σ' a p d 8) (h9 : icd σ' a p d 9) (h10 : icd σ' a p d 10) (h11 : icd σ' a p d 11) (h12 : icd σ' a p d 12) : ICD σ' a p d := by
  obtain ⟨h0, h1, h2, h3, h4, h5, h6, h7, h13, z1, z2, z3⟩ := H
  intro k
  match k with
  | 0 => exact icd_c0 (hs _ (by omega)) h0
  | 1 => exact icd_c1 (hs _ (by omega)) h1
  | 2 => exact icd_c2 (hs _ (by omega)) (hs _ (by omega)) h2
  | 3 => exact icd_c3 (hs _ (by omega)) h3
  | 4 => exact icd_c4 (hs _ (by omega)) (hs _ (by omega)) h4
  | 5 => exact icd_c5 (hs _ (by omega)) h5
  | 6 => exact icd_c6 (hs _ (by omega)) h6
  | 7 => exact icd_c7 (hs _ (by omega)) h7
  | 8 => exact h8
  | 9 => exact h9
  | 10 => exact h10
  | 11 => exact h11
  | 12 => exact h12
  | 13 => exact icd_c13 (hs _ (by omega)) (hs _ (by omega)) (hs _ (by omega)) (hs _ (by omega)) h13
  | _ + 14 => trivial
theorem ICD_f {σ σ' : Hp} {a : Ab} (W : WFA a) {p : Nat} {d : Int} (h : ∀ q : Nat, p ≤ q → q ≤ p + 29 → σ' q = σ q) (H : ICD σ a p d) : ICD σ' a p d := by
  have hmb := many_b W (Or.inl rfl : inD 0)
  intro k
  match k with
  | 0 => exact icd_c0 (h _ (by omega) (by omega)) (H 0)
  | 1 => exact icd_c1 (h _ (by omega) (by omega)) (H 1)
  | 2 => exact icd_c2 (h _ (by omega) (by omega)) (h _ (by omega) (by omega)) (H 2)
  | 3 => exact icd_c3 (h _ (by omega) (by omega)) (H 3)
  | 4 => exact icd_c4 (h _ (by omega) (by omega)) (h _ (by omega) (by omega)) (H 4)
  | 5 => exact icd_c5 (h _ (by omega) (by omega)) (H 5)
  | 6 => exact icd_c6 (h _ (by omega) (by omega)) (H 6)
  | 7 => exact icd_c7 (h _ (by omega) (by omega)) (H 7)
  | 8 => exact icd_c8 (h _ (by omega) (by omega)) (H 8)
  | 9 => exact icd_c9 (h _ (by omega) (by omega)) (H 9)
  | 10 => exact icd_c10 (h _ (by omega) (by omega)) (H 10)
  | 11 => exact icd_c11 (h _ (by omega) (by omega)) (H 11)
  | 12 => exact icd_c12 (by omega) (fun i hi => h _ (by omega) (by omega)) (H 12)
  | 13 => exact icd_c13 (h _ (by omega) (by omega)) (h _ (by omega) (by omega)) (h _ (by omega) (by omega)) (h _ (by omega) (by omega)) (H 13)
  | _ + 14 => trivial
theorem told_pre {σ : Hp} {a : Ab} {p : Nat} {d : Int} (H : told σ a p d) (hT : ict σ a 1) : pre σ a p d := by
  obtain ⟨h0, h1, h2, h3, h4, h5, h6, h7, h13, z1, z2, z3⟩ := H
  exact ⟨h0, h3, h4, h5, h13, hT⟩
theorem c_sweigh {a : Ab} (W : WFA a) {σ : Hp} (H0 : told σ a 2 0) (H1 : told σ a 32 1) (H2 : told σ a 62 2) (hT : ICT σ a) : Okk (f_S_weigh σ) fun s => ICD s a 2 0 ∧ ICD s a 32 1 ∧ ICD s a 62 2 ∧ ∀ q : Nat, ¬ (15 ≤ q ∧ q ≤ 31) → ¬ (45 ≤ q ∧ q ≤ 61) → ¬ (75 ≤ q ∧ q ≤ 91) → s q = σ q := by
  have z0 := H0.2.2.2.2.2.2.2
  have z1 := H1.2.2.2.2.2.2.2
  have z2 := H2.2.2.2.2.2.2.2
  unfold f_S_weigh
  refine ok_call (c_weigh W (Or.inl rfl) (by omega) (told_pre H0 (hT 1)) z0.1 (hT 0) z0.2.2) ?_
  rintro s ⟨s1, s8, s9, s10, s11, s12, -⟩
  have D0 := ICD_all H0 s1 s8 s9 s10 s11 s12
  have T1 : told s a 32 1 := told_f (fun q h1 h2 => s1 q (by omega)) H1
  have T2 : told s a 62 2 := told_f (fun q h1 h2 => s1 q (by omega)) H2
  have t0 : ict s a 0 := ict_c0 (s1 _ (by omega)) (s1 _ (by omega)) (hT 0)
  have t1 : ict s a 1 := ict_c1 (s1 _ (by omega)) (hT 1)
  refine ok_call (c_weigh W (Or.inr (Or.inl rfl)) (by omega) (told_pre T1 t1) T1.2.2.2.2.2.2.2.1 t0 T1.2.2.2.2.2.2.2.2.2) ?_
  rintro v ⟨v1, v8, v9, v10, v11, v12, -⟩
  have D1 := ICD_all T1 v1 v8 v9 v10 v11 v12
  have T2' : told v a 62 2 := told_f (fun q h1 h2 => v1 q (by omega)) T2
  have u0 : ict v a 0 := ict_c0 (v1 _ (by omega)) (v1 _ (by omega)) t0
  have u1 : ict v a 1 := ict_c1 (v1 _ (by omega)) t1
  refine ok_call (c_weigh W (Or.inr (Or.inr rfl)) (by omega) (told_pre T2' u1) T2'.2.2.2.2.2.2.2.1 u0 T2'.2.2.2.2.2.2.2.2.2) ?_
  rintro w ⟨w1, w8, w9, w10, w11, w12, -⟩
  have D2 := ICD_all T2' w1 w8 w9 w10 w11 w12
  refine ok_some ⟨ICD_f W (fun q h1 h2 => by rw [w1 q (by omega), v1 q (by omega)]) D0, ICD_f W (fun q h1 h2 => w1 q (by omega)) D1, D2, fun q h1 h2 h3 => ?_⟩
  rw [w1 q (by omega), v1 q (by omega), s1 q (by omega)]

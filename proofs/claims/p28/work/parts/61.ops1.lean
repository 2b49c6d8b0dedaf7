/-! ===== the small calls ===== -/
section
variable {σ : Hp} {a a' : Ab} {n : Nat} {B : Int}
theorem WFA_by (W : WFA a) (S : smem a a') (h8 : wfa a' 8) (M : smea a a') (F : sfac a a') (hk : wfa a' 14) (P : ∀ k : Nat, k = 15 ∨ k = 16 → wfa a' k) (h17 : a'.len 36 = a.len 36) : WFA a' := WFA_all (wfa_s W S) h8 (wfa_m W M) (wfa_f W S M F) hk P (wfa_17 W h17)
theorem ICR_by (W : WFA a) (S : smem a a') (P : spk a a') (h4 : σ 1 4 = a'.asNow ∧ σ 1 5 = a'.leave) (M : smea a a') (F : sfac a a') (R : ICR σ a) : ICR σ a' := ⟨ICD_s S P R.1, ICD_s S P R.2.1, ICD_s S P R.2.2.1, ICT_s W S R.2.2.2.1, h4, ICM_s M R.2.2.2.2.2.1, ICF_s F R.2.2.2.2.2.2⟩
theorem nM_y (W : WFA a) {p : Nat} {d x : Int} (hd : inD d) (H : icd σ a p d 0) (h : thr a d x) : f_C_needMember σ p x = some 0 := by
  have h0 : σ p 0 = a.many d := H
  have hm := many_b W hd
  rw [e_C_needMember, if_pos ⟨h.1, by rw [h0]; exact h.2, by have := h.2; omega⟩]
theorem nM_n {p : Nat} {d x : Int} (H : icd σ a p d 0) (h : ¬ thr a d x) : f_C_needMember σ p x = some 1 := by
  have h0 : σ p 0 = a.many d := H
  rw [e_C_needMember, if_neg (fun g => h ⟨g.1, by rw [← h0]; exact g.2.1⟩)]
theorem nS_y (W : WFA a) {m : Int} (H : ICM σ a) (h : 0 ≤ m ∧ m < a.measures) : f_C_needMeasure σ m = some 0 := by
  have h0 : σ 95 0 = a.measures := H 0
  have := (mea W h.1 h.2).1
  rw [e_C_needMeasure, if_pos ⟨h.1, by omega, this⟩]
theorem nS_n {m : Int} (H : ICM σ a) (h : ¬ (0 ≤ m ∧ m < a.measures)) : f_C_needMeasure σ m = some 1 := by
  have h0 : σ 95 0 = a.measures := H 0
  rw [e_C_needMeasure, if_neg (fun g => h ⟨g.1, by omega⟩)]
theorem nR_y {x l h : Int} (g : l ≤ x ∧ x ≤ h) : f_C_needRange σ x l h = some 0 := by rw [e_C_needRange, if_pos g]
theorem nR_n {x l h : Int} (g : ¬ (l ≤ x ∧ x ≤ h)) : f_C_needRange σ x l h = some 2 := by rw [e_C_needRange, if_neg g]
theorem need1 : f_C_need σ 1 = some 0 := by rw [e_C_need, if_neg (by omega)]
theorem need0 : f_C_need σ 0 = some 3 := by rw [e_C_need, if_pos rfl]
theorem nX_y {d : Int} (hd : inD d) : f_C_existing σ d = some (0, dP d) := by
  have := inD_b hd
  rw [e_C_existing, if_pos (by omega)]
theorem nX_n {d : Int} (hd : ¬ inD d) : f_C_existing σ d = some (1, 0) := by
  rw [e_C_existing, if_neg (fun g => hd (inD_of (by omega)))]
/-- a cell that is there, or not -/
theorem nC_y' (W : WFA a) (R : ICR σ a) {t x y m : Int} (h : mem4 a t x y m) : f_C_existingCell σ t x y m = some (0, clq t x y) := by
  have t12 := thr12 W iD0 h.1
  have x12 := thr12 W iD1 h.2.1
  have y12 := thr12 W iD2 h.2.2.1
  unfold f_C_existingCell; apply ok_eq
  refine ok_eqb (nM_y W iD0 (R.1 0) h.1) ?_
  rw [if_pos rfl]
  refine ok_eqb (nM_y W iD1 (R.2.1 0) h.2.1) ?_
  rw [if_pos rfl]
  refine ok_eqb (nM_y W iD2 (R.2.2.1 0) h.2.2.1) ?_
  rw [if_pos rfl]
  refine ok_eqb (nS_y W R.2.2.2.2.2.1 h.2.2.2) ?_
  rw [if_pos rfl]
  refine ok_grd (by (first | omega | (unfold r32; omega) | (unfold r64; omega) | (simp only [r32, r64] at *; omega))) (ok_grd (by (first | omega | (unfold r32; omega) | (unfold r64; omega) | (simp only [r32, r64] at *; omega))) (ok_grd (by (first | omega | (unfold r32; omega) | (unfold r64; omega) | (simp only [r32, r64] at *; omega))) (ok_grd (by (first | omega | (unfold r32; omega) | (unfold r64; omega) | (simp only [r32, r64] at *; omega))) (ok_some ?_))))
  unfold clq
  rw [show t * 144 + x * 12 + y = 144 * t + 12 * x + y by omega]
theorem nC_n' (W : WFA a) (R : ICR σ a) {t x y m : Int} (h : ¬ mem4 a t x y m) : f_C_existingCell σ t x y m = some (1, 0) := by
  unfold f_C_existingCell; apply ok_eq
  by_cases h1 : thr a 0 t
  · refine ok_eqb (nM_y W iD0 (R.1 0) h1) ?_
    rw [if_pos rfl]
    by_cases h2 : thr a 1 x
    · refine ok_eqb (nM_y W iD1 (R.2.1 0) h2) ?_
      rw [if_pos rfl]
      by_cases h3 : thr a 2 y
      · refine ok_eqb (nM_y W iD2 (R.2.2.1 0) h3) ?_
        rw [if_pos rfl]
        refine ok_eqb (nS_n R.2.2.2.2.2.1 (fun g => h ⟨h1, h2, h3, g⟩)) ?_
        rw [if_neg (by omega)]
        exact ok_grd (by omega) (ok_some rfl)
      · refine ok_eqb (nM_n (R.2.2.1 0) h3) ?_
        rw [if_neg (by omega)]
        exact ok_grd (by omega) (ok_some rfl)
    · refine ok_eqb (nM_n (R.2.1 0) h2) ?_
      rw [if_neg (by omega)]
      exact ok_grd (by omega) (ok_some rfl)
  · refine ok_eqb (nM_n (R.1 0) h1) ?_
    rw [if_neg (by omega)]
    exact ok_grd (by omega) (ok_some rfl)
/-- what of the class's rows does not rest on its own numbers of then, now and totals -/
theorem ICR_fby {s : Hp} (W : WFA a) (S : smem a a') (P : spk a a') (E : ∀ q : Nat, q < 108 → q ≠ 1 → s q = σ q) (h4 : s 1 4 = a'.asNow ∧ s 1 5 = a'.leave) (M : smea a a') (F : sfac a a') (R : ICR σ a) : ICR s a' := by
  have R1 : ICR (fun q => if q = 1 then σ 1 else s q) a := ICR_f W (fun q hq => by
    show (if q = 1 then σ 1 else s q) = σ q
    by_cases e : q = 1
    · rw [if_pos e, e]
    · rw [if_neg e]; exact E q hq e) R
  have X : ∀ q : Nat, q ≠ 1 → (fun q => if q = 1 then σ 1 else s q : Hp) q = s q := fun q hq => if_neg hq
  obtain ⟨r0, r1, r2, r3, r4, r5, r6⟩ := R1
  refine ⟨ICD_s S P (ICD_f W (fun q h1 h2 => (X q (by omega)).symm) r0), ICD_s S P (ICD_f W (fun q h1 h2 => (X q (by omega)).symm) r1), ICD_s S P (ICD_f W (fun q h1 h2 => (X q (by omega)).symm) r2), ICT_s W S (fun k => ?_), h4, ICM_s M (fun k => ?_), ICF_s F (fun k => ?_)⟩
  · have g := r3 k
    match k, g with
    | 0, g => exact g
    | 1, g => exact g
    | _ + 2, _ => trivial
  · have g := r5 k
    match k, g with
    | 0, g => exact g
    | 1, g => exact g
    | 2, g => exact g
    | 3, g => exact g
    | _ + 4, _ => trivial
  · have g := r6 k
    match k, g with
    | 0, g => exact g
    | 1, g => exact g
    | 2, g => exact g
    | _ + 3, _ => trivial
/-- one number of the reference's is set anew, and nothing is kept -/
def n129 (a : Ab) (j v : Int) : Ab := frs (hset a 129 j v)
theorem n129_q {j v : Int} {q : Nat} (h : q ≠ 129) : n129 a j v q = a q := by unfold n129; rw [frs_q h, hset_ne h]
theorem n129_j {j v i : Int} (h : i ≠ 40) (h2 : i ≠ j) : n129 a j v 129 i = a 129 i := by unfold n129; rw [frs_j h, hs_nj h2]
theorem n129_e {j v : Int} (h : j ≠ 40) : n129 a j v 129 j = v := by unfold n129; rw [frs_j h, hs_eq]
theorem n129_S {j v : Int} (h : j = 16 ∨ j = 17) : smem a (n129 a j v) := ⟨fun q hq => n129_q (by omega), n129_j (by omega) (by omega)⟩
theorem n129_M {j v : Int} (h : j = 16 ∨ j = 17) : smea a (n129 a j v) := ⟨n129_q (by omega), n129_q (by omega), n129_q (by omega), n129_q (by omega), n129_j (by omega) (by omega)⟩
theorem n129_F {j v : Int} (h : j = 16 ∨ j = 17) : sfac a (n129 a j v) := ⟨fun q h1 h2 => n129_q (by omega), n129_j (by omega) (by omega), n129_j (by omega) (by omega)⟩
theorem n129_P {j v : Int} : spk a (n129 a j v) := ⟨n129_q (by omega), n129_q (by omega), n129_q (by omega)⟩
theorem n129_D {j v : Int} : swd a (n129 a j v) := ⟨n129_q (by omega), n129_q (by omega), n129_q (by omega), n129_q (by omega)⟩
theorem n129_W (W : WFA a) {j v : Int} (h : j = 16 ∨ j = 17) (hv : v = 0 ∨ v = 1) : WFA (n129 a j v) := by
  have h8 : (a.asNow = 0 ∨ a.asNow = 1) ∧ (a.leave = 0 ∨ a.leave = 1) := W 8
  refine WFA_by W (n129_S h) ?_ (n129_M h) (n129_F h) (wfa_k0 (frs_0 _)) (wfa_p W (n129_S h) n129_P) (by unfold Ab.len; rw [n129_q (by omega)])
  rcases h with rfl | rfl
  · have e1 : (n129 a 16 v).asNow = v := n129_e (by omega)
    have e2 : (n129 a 16 v).leave = a.leave := n129_j (by omega) (by omega)
    exact ⟨by rw [e1]; exact hv, by rw [e2]; exact h8.2⟩
  · have e1 : (n129 a 17 v).leave = v := n129_e (by omega)
    have e2 : (n129 a 17 v).asNow = a.asNow := n129_j (by omega) (by omega)
    exact ⟨by rw [e2]; exact h8.1, by rw [e1]; exact hv⟩
end

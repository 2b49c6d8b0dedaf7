/-! ===== from, measure, word ===== -/
section
variable {σ : Hp} {a a' : Ab} {n : Nat} {B : Int} {e : Nat}
theorem ICM_e {s : Hp} (E : ∀ q : Nat, 95 ≤ q → q ≤ 100 → s q = σ q) (H : ICM σ a) : ICM s a := by
  intro k
  have g := H k
  match k, g with
  | 0, g => simp only [icm, E 95 (by omega) (by omega)] at g ⊢; exact g
  | 1, g => simp only [icm, E 96 (by omega) (by omega), E 97 (by omega) (by omega), E 98 (by omega) (by omega)] at g ⊢; exact g
  | 2, g => simp only [icm, E 99 (by omega) (by omega)] at g ⊢; exact g
  | 3, g => simp only [icm, E 100 (by omega) (by omega)] at g ⊢; exact g
  | _ + 4, _ => trivial
theorem ICF_e {s : Hp} (E : ∀ q : Nat, 101 ≤ q → q ≤ 107 → s q = σ q) (H : ICF σ a) : ICF s a := by
  intro k
  have g := H k
  match k, g with
  | 0, g => simp only [icf, E 101 (by omega) (by omega), E 102 (by omega) (by omega), E 103 (by omega) (by omega), E 104 (by omega) (by omega)] at g ⊢; exact g
  | 1, g => simp only [icf, E 101 (by omega) (by omega)] at g ⊢; exact g
  | 2, g => simp only [icf, E 101 (by omega) (by omega), E 105 (by omega) (by omega), E 106 (by omega) (by omega), E 107 (by omega) (by omega)] at g ⊢; exact g
  | _ + 3, _ => trivial
theorem ICT_e {s : Hp} (E : ∀ q : Nat, 92 ≤ q → q ≤ 94 → s q = σ q) (H : ICT σ a) : ICT s a := by
  intro k
  have g := H k
  match k, g with
  | 0, g => exact ict_c0 (E 92 (by omega) (by omega)) (E 93 (by omega) (by omega)) g
  | 1, g => exact ict_c1 (E 94 (by omega) (by omega)) g
  | _ + 2, _ => trivial
/-- the members as they were; measures and facts shown by themselves -/
theorem ICR_pm {s : Hp} (W : WFA a) (S : smem a a') (P : spk a a') (h4 : a'.asNow = a.asNow ∧ a'.leave = a.leave) (E : ∀ q : Nat, q < 95 → s q = σ q) (hM : ICM s a') (hF : ICF s a') (R : ICR σ a) : ICR s a' := ⟨ICD_s S P (ICD_f W (fun q _ _ => E q (by omega)) R.1), ICD_s S P (ICD_f W (fun q _ _ => E q (by omega)) R.2.1), ICD_s S P (ICD_f W (fun q _ _ => E q (by omega)) R.2.2.1), ICT_s W S (ICT_e (fun q _ _ => E q (by omega)) R.2.2.2.1), by rw [E 1 (by omega), h4.1, h4.2]; exact R.2.2.2.2.1, hM, hF⟩
theorem frs_S {b : Ab} (S : smem a b) : smem a (frs b) := ⟨fun q hq => by rw [frs_q (by omega)]; exact S.1 q hq, by show frs b 129 15 = a 129 15; rw [frs_j (by omega)]; exact S.2⟩
theorem op_from (H : J σ a n B) (hB : B ≤ 100000) (m d v : Int) : OPT σ a n B e (fun code w b => TT a (((0 ≤ m ∧ m < a.measures) ∧ inD d) ∧ (0 ≤ v ∧ v ≤ 11)) (fun w b => TKs a b ∧ w = a.md (3 * m + d)) code w b) (f_L_from σ e m d v) := by
  obtain ⟨W, K, V, I, VV, h1, h2⟩ := id H
  obtain ⟨R, IK, IW, I9⟩ := IC_r I
  have hh := hit_e IK
  by_cases h : (0 ≤ m ∧ m < a.measures) ∧ inD d
  · obtain ⟨hm, hd⟩ := h
    have hd' := inD_b hd
    have hm4 := (mea W hm.1 hm.2).1
    have h11 : ∀ i : Int, 0 ≤ i → i < 12 → 0 ≤ a.md i ∧ a.md i ≤ 11 := W 11
    by_cases hv : 0 ≤ v ∧ v ≤ 11
    · have S : smem a (hset a 149 (3 * m + d) v) := ⟨fun q hq => hset_ne (by omega), by show hset a 149 (3 * m + d) v 129 15 = a 129 15; rw [hset_ne (by omega)]⟩
      have q9 : ∀ q : Nat, q ≠ 129 → q ≠ 149 → frs (hset a 149 (3 * m + d) v) q = a q := fun q q1 q2 => by rw [frs_q q1, hset_ne q2]
      have j9 : ∀ j : Int, j ≠ 40 → frs (hset a 149 (3 * m + d) v) 129 j = a 129 j := fun j hj => by rw [frs_j hj, hset_ne (by omega)]
      have S' := frs_S S
      have F : sfac a (frs (hset a 149 (3 * m + d) v)) := ⟨fun q h1 h2 => q9 q (by omega) (by omega), j9 29 (by omega), j9 35 (by omega)⟩
      have P : spk a (frs (hset a 149 (3 * m + d) v)) := ⟨q9 163 (by omega) (by omega), q9 164 (by omega) (by omega), q9 165 (by omega) (by omega)⟩
      have D : swd a (frs (hset a 149 (3 * m + d) v)) := ⟨q9 137 (by omega) (by omega), q9 138 (by omega) (by omega), q9 139 (by omega) (by omega), q9 140 (by omega) (by omega)⟩
      have a3 : (frs (hset a 149 (3 * m + d) v)).hits = a.hits := j9 41 (by omega)
      have am : (frs (hset a 149 (3 * m + d) v)).measures = a.measures := j9 23 (by omega)
      have h146 : (frs (hset a 149 (3 * m + d) v)).mk = a.mk := q9 146 (by omega) (by omega)
      have h147 : (frs (hset a 149 (3 * m + d) v)).ma = a.ma := q9 147 (by omega) (by omega)
      have h148 : (frs (hset a 149 (3 * m + d) v)).mb = a.mb := q9 148 (by omega) (by omega)
      have h149 : ∀ i : Int, (frs (hset a 149 (3 * m + d) v)).md i = if i = 3 * m + d then v else a.md i := fun i => by show frs (hset a 149 (3 * m + d) v) 149 i = _; rw [frs_q (by omega)]; exact hs_if
      have W' : WFA (frs (hset a 149 (3 * m + d) v)) := by
        refine WFA_all (wfa_s W S') (wfa_8 W (j9 16 (by omega)) (j9 17 (by omega))) (fun k hk => ?_) (fun k hk => ?_) (wfa_k0 (frs_0 _)) (wfa_p W S' P) (wfa_17 W (by show frs (hset a 149 (3 * m + d) v) 140 36 = a 140 36; rw [q9 140 (by omega) (by omega)]))
        · rcases hk with rfl | rfl
          · have := W 10; simp only [wfa, am, h146, h147, h148] at this ⊢; exact this
          · intro i i0 i1
            rw [h149]
            by_cases g : i = 3 * m + d
            · rw [if_pos g]; exact hv
            · rw [if_neg g]; exact h11 i i0 i1
        · have h130 : (frs (hset a 149 (3 * m + d) v)).many = a.many := S'.1 130 (by omega)
          have h131 : (frs (hset a 149 (3 * m + d) v)).kind = a.kind := S'.1 131 (by omega)
          have f0 : (frs (hset a 149 (3 * m + d) v)).ft = a.ft := F.1 150 (by omega) (by omega)
          have f1 : (frs (hset a 149 (3 * m + d) v)).fa = a.fa := F.1 151 (by omega) (by omega)
          have f2 : (frs (hset a 149 (3 * m + d) v)).fb = a.fb := F.1 152 (by omega) (by omega)
          have f3 : (frs (hset a 149 (3 * m + d) v)).fm = a.fm := F.1 153 (by omega) (by omega)
          have f4 : (frs (hset a 149 (3 * m + d) v)).fv = a.fv := F.1 154 (by omega) (by omega)
          have f5 : (frs (hset a 149 (3 * m + d) v)).st = a.st := F.1 155 (by omega) (by omega)
          have f6 : (frs (hset a 149 (3 * m + d) v)).sa = a.sa := F.1 156 (by omega) (by omega)
          have f7 : (frs (hset a 149 (3 * m + d) v)).sb = a.sb := F.1 157 (by omega) (by omega)
          have f8 : (frs (hset a 149 (3 * m + d) v)).sm = a.sm := F.1 158 (by omega) (by omega)
          have f9 : (frs (hset a 149 (3 * m + d) v)).sv = a.sv := F.1 159 (by omega) (by omega)
          have ff : (frs (hset a 149 (3 * m + d) v)).facts = a.facts := F.2.1
          have fs : (frs (hset a 149 (3 * m + d) v)).saved = a.saved := F.2.2
          rcases hk with rfl | rfl | rfl | rfl
          · have := W 12; simp only [wfa, thr, isP, h130, h131, h146, am, f0, f1, f2, f3, f4, ff] at this ⊢; exact this
          · have := W 13; simp only [wfa, thr, isP, h130, h131, h146, am, f5, f6, f7, f8, f9, fs] at this ⊢; exact this
          · have := W 18; simp only [wfa, f0, f1, f2, f3, ff] at this ⊢; exact this
          · have := W 19; simp only [wfa, f5, f6, f7, f8, fs] at this ⊢; exact this
      have nd : ∀ (o : Int) (F : Nat) (m' : Int), ndsF (frs (hset a 149 (3 * m + d) v)) o F m' ↔ ndsF a o F m' := by
        intro o F
        induction F with
        | zero => intro m'; exact Iff.rfl
        | succ F ih => intro m'; simp only [ndsF, ih, h146, h147, h148]
      refine ⟨0, a.md (3 * m + d), frs (hset a 149 (3 * m + d) v), ⟨W', WFW_s K D S', by rw [a3]; exact h1, by rw [a3]; omega⟩, (TT_0 (⟨TKs_s S' am a3, rfl⟩)), ?_⟩
      · unfold f_L_from
        refine L_ok W' ?_
        unfold f_C_from
        refine ok_eqb (nS_y W R.2.2.2.2.2.1 hm) ?_
        rw [if_pos rfl]
        refine ok_eqb (nX_y hd) ?_
        rw [if_pos rfl]
        refine ok_eqb (nR_y hv) ?_
        rw [if_pos rfl]
        refine ok_call (P := fun r => r = (a.md (3 * m + d), hset σ 100 (3 * m + d) v)) ?_ ?_
        · unfold f_MS_setLeastDepth
          refine ok_eqb (r_MS_leastDepth W R.2.2.2.2.2.1 hm.1 hm.2 hd) (ok_eqb (r_MS_has W R.2.2.2.2.2.1 m) ?_)
          rw [bI_t hm, if_neg (by omega), if_neg (by omega), if_neg (by omega), show m * 3 + d = 3 * m + d by omega]
          exact ok_bind (ok_grd (by (first | omega | (unfold r32; omega) | (unfold r64; omega) | (simp only [r32, r64] at *; omega))) (ok_grd (by (first | omega | (unfold r32; omega) | (unfold r64; omega) | (simp only [r32, r64] at *; omega))) (ok_grd (by omega) (ok_some (ok_some rfl)))))
        · rintro r rfl
          refine ok_eqb (e_K_dropAll _) (ok_some ⟨rfl, rfl, fun q q1 q2 => ?_, ?_⟩)
          · show hset (hset σ 100 (3 * m + d) v) 108 0 0 q = σ q
            rw [hset_ne (by omega), hset_ne (by omega)]
          · dsimp only
            have E : ∀ q : Nat, q ≠ 100 → q ≠ 108 → hset (hset σ 100 (3 * m + d) v) 108 0 0 q = σ q := fun q q1 q2 => by rw [hset_ne q2, hset_ne q1]
            refine IC_mk (ICR_pm W S' P ⟨j9 16 (by omega), j9 17 (by omega)⟩ (fun q hq => E q (by omega) (by omega)) (fun k => ?_) (ICF_s F (ICF_e (fun q _ _ => E q (by omega) (by omega)) R.2.2.2.2.2.2)) R) (ICK_0 hs_eq (by rw [hs_nj (by omega), hset_ne (by omega), hh.2, a3]) (frs_0 _)) (ICW_s D S' (ICW_f (fun q hq => E q (by omega) (by omega)) IW)) ?_
            · have g := R.2.2.2.2.2.1 k
              match k, g with
              | 0, g => simp only [icm, am, E 95 (by omega) (by omega)] at g ⊢; exact g
              | 1, g => simp only [icm, am, h146, h147, h148, E 96 (by omega) (by omega), E 97 (by omega) (by omega), E 98 (by omega) (by omega)] at g ⊢; exact g
              | 2, g => simp only [icm, am, nds, nd, E 99 (by omega) (by omega)] at g ⊢; exact g
              | 3, g =>
                intro i i0 i1
                rw [h149, hset_ne (by omega), hs_if]
                by_cases q : i = 3 * m + d
                · rw [if_pos q, if_pos q]
                · rw [if_neg q, if_neg q]; exact g i i0 i1
              | _ + 4, _ => trivial
            · unfold ic9 at I9 ⊢; rw [E 116 (by omega) (by omega), E 117 (by omega) (by omega)]; exact ⟨I9.1, by omega, I9.2.2⟩
    · refine opt_er H 2 0 (TT_e ⟨by omega, by omega⟩ (fun q => hv q.2)) ?_
      · unfold f_L_from
        refine ok_eqb (v := (2, 0, σ)) ?_ ?_
        · unfold f_C_from; apply ok_eq
          refine ok_eqb (nS_y W R.2.2.2.2.2.1 hm) ?_
          rw [if_pos rfl]
          refine ok_eqb (nX_y hd) ?_
          rw [if_pos rfl]
          refine ok_eqb (nR_n hv) ?_
          rw [if_neg (by omega)]
          exact ok_grd (by omega) (ok_some rfl)
        · (rw [if_neg (by simp), if_neg (by simp), if_pos rfl]; exact ok_some (LR_er W I (by omega) _ _ (by omega)))
  · refine opt_er H 1 0 (TT_e ⟨by omega, by omega⟩ (fun q => h q.1)) ?_
    · unfold f_L_from
      refine ok_eqb (v := (1, 0, σ)) ?_ ?_
      · unfold f_C_from; apply ok_eq
        by_cases hm : 0 ≤ m ∧ m < a.measures
        · refine ok_eqb (nS_y W R.2.2.2.2.2.1 hm) ?_
          rw [if_pos rfl]
          refine ok_eqb (nX_n (fun q => h ⟨hm, q⟩)) ?_
          rw [if_neg (by simp)]
          exact ok_grd (by simp) (ok_some rfl)
        · refine ok_eqb (nS_n R.2.2.2.2.2.1 hm) ?_
          rw [if_neg (by omega)]
          exact ok_grd (by omega) (ok_some rfl)
      · (rw [if_neg (by simp), if_pos rfl]; exact ok_some (LR_er W I (by omega) _ _ (by omega)))
end

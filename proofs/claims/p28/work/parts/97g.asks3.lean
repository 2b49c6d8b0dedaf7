section
variable {σ s : Hp} {a a' b : Ab} {n N : Nat} {B B' : Int} {e : Nat} {d m : Int}
theorem mem4_c (S : smem a b) (M : b.measures = a.measures) {t x y m : Int} (h : mem4 a t x y m) : mem4 b t x y m := by
  have h130 : b.many = a.many := S.1 130 (by omega)
  unfold mem4 thr at h ⊢
  rw [h130, M]; exact h
theorem l_134 (H : J σ a N B) (A : nA σ a) (hB : B ≤ 95000) {t x y m x0 v j hh : Int} (h : mem4 a t x y m) (hv : v = aV a m (t, x, y)) (hj : j ≠ 0 ↔ (seeP a 0 t ∧ seeP a 1 x ∧ seeP a 2 y)) (eh : hh = a.hits) (hC : (seeP a 0 t ∧ seeP a 1 x ∧ seeP a 2 y) → hasC a (cod t x y m)) : Okk (f_L_asks_c134 σ e x0 t x y m v j hh) (AskQ N (e + 3) (B + 720)) := by
  have h6 := H.2.2.2.2.2
  unfold f_L_asks_c134
  refine ok_call (j_cell H (by omega) h) ?_
  rintro r ⟨r1, r2, rK, b, rJ, V, h1, h2, h3⟩
  refine ok_grd r1 ?_
  rw [if_neg (fun q => q (lcm_eq.mpr (by rw [r2, hv])))]
  refine ok_eqb (i_hits rJ) (ok_call (P := fun k => (j = 0 ∧ k = 0) ∨ (j ≠ 0 ∧ k = 1)) (ok_ite (fun q => ok_some (Or.inl ⟨q, rfl⟩)) (fun q => ok_some (Or.inr ⟨q, rfl⟩))) ?_)
  intro k hk
  have e1 : b.hits = hh + k := by
    rcases hk with ⟨q, rfl⟩ | ⟨q, rfl⟩
    · rw [h3 (fun w => hj.mpr w q), eh]; omega
    · have w := hj.mp q
      rw [(h2 w).2 (hC w), eh]
  refine ok_grd (by unfold r32; omega) ?_
  rw [if_neg (fun q => q e1)]
  have h14 : 0 ≤ b.keeps ∧ b.keeps ≤ 20 ∧ _ := rJ.1 14
  refine ok_eqb (i_kept rJ) ?_
  rw [if_neg (by omega)]
  refine ok_grd (by omega) ?_
  rw [rK 129 (by omega) (by omega), if_pos (by rw [eh]; exact A.2.2.1)]
  have M : b.measures = a.measures := V.2.1.2.2.2.2
  refine ok_mono (l_190 rJ (nA_k A (rK 129 (by omega) (by omega)) V.1 M h1) (by omega) (mem4_c V.1 M h)) ?_
  rintro u ⟨u1, u2, a', u3, u4⟩
  exact ⟨u1, u2, a', u3, J_up u4 (by omega)⟩
/-- whatever it asks, it is answered as it asks -/
theorem l_asks (H : J σ a N B) (A : nA σ a) (hB : B ≤ 94000) (x0 : Int) : Okk (f_L_asks σ e x0) (AskQ N (e + 3) (B + 840)) := by
  have W := H.1
  have K := H.2.1
  have m0 := many_b W iD0
  have m1 := many_b W iD1
  have m2 := many_b W iD2
  have A3 := A.2.2.2
  unfold f_L_asks
  rw [A.1 0 iD0, A.1 1 iD1, A.1 2 iD2, A.2.1]
  have l0 := lw_b x0 (k := a.many 0) (by omega)
  have l1 := lw_b (ishr x0 3) (k := a.many 1) (by omega)
  have l2 := lw_b (ishr x0 5) (k := a.many 2) (by omega)
  have l3 := lw_b (ishr x0 7) (k := a.measures) (by omega)
  refine ok_grd (by omega) (ok_eqb (e_low σ _ (by omega)) (ok_grd (by omega) (ok_eqb (e_low σ _ (by omega)) (ok_grd (by omega) (ok_eqb (e_low σ _ (by omega)) (ok_grd (by omega) (ok_eqb (e_low σ _ (by omega)) ?_)))))))
  generalize lwV x0 (a.many 0) = t at *
  generalize lwV (ishr x0 3) (a.many 1) = x at *
  generalize lwV (ishr x0 5) (a.many 2) = y at *
  generalize lwV (ishr x0 7) a.measures = m at *
  have h : mem4 a t x y m := ⟨l0, l1, l2, l3⟩
  refine ok_call (j_cell H (by omega) h) ?_
  rintro r ⟨r1, r2, rK, b, rJ, V, h1, h2, h3⟩
  have M : b.measures = a.measures := V.2.1.2.2.2.2
  have hb := mem4_c V.1 M h
  have ev : aV b m (t, x, y) = aV a m (t, x, y) := aV_c W K V ⟨h.1, h.2.1, h.2.2.1⟩
  have e0 := see_c V.1 0 t
  have e1 := see_c V.1 1 x
  have e2 := see_c V.1 2 y
  refine ok_grd r1 (ok_call (j_memberAt rJ iD0 hb.1 (by omega)) ?_)
  rintro v16 ⟨p1, p2⟩
  rw [mAt_4] at p2
  refine ok_grd p1 (ok_call (P := fun j => j ≠ 0 ↔ (seeP b 0 t ∧ seeP b 1 x ∧ seeP b 2 y)) ?_ ?_)
  · refine ok_ite (fun q => ok_some ⟨fun w => absurd rfl w, fun w => absurd (by rw [p2, bI_t w.1]) q⟩) (fun q => ?_)
    have s0 : seeP b 0 t := bI_1.mp (p2.symm.trans (Classical.not_not.mp q))
    refine ok_call (j_memberAt rJ iD1 hb.2.1 (by omega)) ?_
    rintro v21 ⟨q1, q2⟩
    rw [mAt_4] at q2
    refine ok_grd q1 (ok_ite (fun q => ok_some ⟨fun w => absurd rfl w, fun w => absurd (by rw [q2, bI_t w.2.1]) q⟩) (fun q => ?_))
    have s1 : seeP b 1 x := bI_1.mp (q2.symm.trans (Classical.not_not.mp q))
    refine ok_call (j_memberAt rJ iD2 hb.2.2.1 (by omega)) ?_
    rintro v24 ⟨z1, z2⟩
    rw [mAt_4] at z2
    refine ok_grd z1 (ok_ite (fun q => ok_some ⟨fun w => absurd rfl w, fun w => absurd (by rw [z2, bI_t w.2.2]) q⟩) (fun q => ?_))
    have s2 : seeP b 2 y := bI_1.mp (z2.symm.trans (Classical.not_not.mp q))
    exact ok_some ⟨fun _ => ⟨s0, s1, s2⟩, fun _ => by omega⟩
  · intro j hj
    refine ok_eqb (i_hits rJ) (ok_call (j_cellAnew rJ (by omega) hb) ?_)
    rintro w ⟨w1, w2, wK, wJ⟩
    refine ok_grd w1 ?_
    rw [if_neg (fun q => q (lcm_eq.mpr (by rw [r2, w2, ev])))]
    have Q := l_134 (e := e) (x0 := x0) (v := r.2.1) (j := j) (hh := b.hits) wJ (nA_k A (by rw [wK 129 (by omega) (by omega), rK 129 (by omega) (by omega)]) V.1 M h1) (by omega) hb (by rw [r2, ev]) hj rfl (fun q => (h2 ⟨e0.mp q.1, e1.mp q.2.1, e2.mp q.2.2⟩).1)
    rw [show B + 60 + 60 + 720 = B + 840 by omega] at Q
    refine ok_ite (fun _ => Q) (fun q => ?_)
    have ns : ¬ (seeP a 0 t ∧ seeP a 1 x ∧ seeP a 2 y) := fun s => q (hj.mpr ⟨e0.mpr s.1, e1.mpr s.2.1, e2.mpr s.2.2⟩)
    have en : r.2.1 = zNO := by rw [r2]; unfold aV; exact if_neg ns
    rw [if_neg (fun z => z (lcm_eq.mpr en))]
    exact Q
end

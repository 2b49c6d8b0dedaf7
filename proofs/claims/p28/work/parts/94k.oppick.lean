section
variable {σ : Hp} {a a' b : Ab} {n : Nat} {B : Int} {e : Nat} {d h z m top : Int} {row : Int → Int}
theorem c_beg (W : WFA a) (h9 : ic9 σ B) (hB : B < 2000000000) (m : Int) : Okk (f_R_begins σ m) fun s => RM s a m ∧ (∀ q : Nat, q ≠ 116 → s q = σ q) ∧ s 116 4 = σ 116 4 + 1 := by
  unfold f_R_begins
  have e4 : (hset σ 116 3 m) 116 4 = σ 116 4 := hs_nj (by omega)
  rw [e4]
  have E : ∀ q : Nat, q ≠ 116 → (hset (hset σ 116 3 m) 116 4 (σ 116 4 + 1)) q = σ q := fun q hq => by rw [hset_ne hq, hset_ne hq]
  obtain ⟨g1, g2, g3⟩ := h9
  refine ok_grd (by (first | omega | (unfold r32; omega) | (unfold r64; omega) | (simp only [r32, r64] at *; omega))) (ok_some ⟨⟨?_, ?_, ?_⟩, E, hs_eq⟩)
  · rw [hs_nj (by omega), hs_eq]
  · intro c c0 c1
    rw [hs_eq, E 117 (by omega)]
    have := g3 c c0 c1
    omega
  · intro t x y h hst
    have hb := clq_b W h
    rw [hs_eq, E 117 (by omega)] at hst
    have := g3 (clq t x y) hb.1 hb.2
    omega
/-- the members that the class picked -/
theorem pick_yv (W : WFA a) (H : hOk a d h z) {s : Hp} (P : pkd s (dP d) (askC a d h z) (a.many d).toNat) : (0 ≤ nC (askC a d h z) (a.many d).toNat ∧ nC (askC a d h z) (a.many d).toNat ≤ 12) ∧ (∀ i : Int, 0 ≤ i → i < nC (askC a d h z) (a.many d).toNat → thr a d (s (dP d + 12) i) ∧ isP a d (s (dP d + 12) i)) ∧ (∀ i : Int, 0 ≤ i → i < nC (askC a d h z) (a.many d).toNat → pkR a d (askC a d h z) (a.many d).toNat (12 * d + i) = s (dP d + 12) i) ∧ ∀ i j : Int, 0 ≤ i → i < j → j < nC (askC a d h z) (a.many d).toNat → s (dP d + 12) i < s (dP d + 12) j := by
  have mb := many_b W H.1
  have nb := nC_b (askC a d h z) (a.many d).toNat
  have sur : ∀ i : Int, 0 ≤ i → i < nC (askC a d h z) (a.many d).toNat → ∃ y : Nat, y < (a.many d).toNat ∧ askC a d h z y ≠ 0 ∧ nC (askC a d h z) y = i ∧ s (dP d + 12) i = y := fun i i0 i1 => by
    obtain ⟨y, y1, y2, y3⟩ := nC_sur (c := askC a d h z) _ i i0 i1
    exact ⟨y, y1, y2, y3, by rw [← y3]; exact P.2 y y1 y2⟩
  refine ⟨⟨nb.1, by omega⟩, fun i i0 i1 => ?_, fun i i0 i1 => ?_, fun i j i0 ij j1 => ?_⟩
  · obtain ⟨y, y1, y2, y3, y4⟩ := sur i i0 i1
    have ha : askP a d h z y := Classical.byContradiction (fun q => y2 (bI_f q))
    rw [y4]
    exact ⟨⟨by omega, by omega⟩, ha.1⟩
  · obtain ⟨y, y1, y2, y3, y4⟩ := sur i i0 i1
    rw [y4, ← y3]
    exact pkR_v _ y y1 y2
  · obtain ⟨y, y1, y2, y3, y4⟩ := sur i i0 (by omega)
    obtain ⟨y', y1', y2', y3', y4'⟩ := sur j (by omega) j1
    rw [y4, y4']
    by_cases g : y < y'
    · omega
    · have hlt := nC_le (askC a d h z) y' (y - y')
      rw [show y' + (y - y') = y by omega, y3, y3'] at hlt
      omega
theorem pick_fin (H : J σ a n B) {T : Int} (C : pbC a d row T) {u : Hp} (E : ∀ q : Nat, q < 116 → q ≠ dP d → q ≠ dP d + 12 → u q = σ q) (E2 : ∀ j : Int, j ≠ 2 → u (dP d) j = σ (dP d) j) (e2 : u (dP d) 2 = T) (er : ∀ i : Int, 0 ≤ i → i < T → u (dP d + 12) i = row (12 * d + i)) (E4 : ∀ q : Nat, 125 ≤ q → u q = σ q) (h9 : ic9 u (B + 60)) : IC u (pcB a d row T) n (B + 60) := by
  obtain ⟨W, K, V, I, VV, h1, h2⟩ := id H
  obtain ⟨R, IK, IW, I9⟩ := IC_r I
  have hdp := dP_b C.1
  refine IC_mk (pb_ICR W C R (fun q q1 q2 q3 => E q (by omega) q2 q3) E2 e2 er) (ICK_s W K pb_V (pb_j 40) (pb_j 41) (pb_q (by omega) (by omega)) (ICK_f (fun q q1 q2 => E q (by omega) (by omega) (by omega)) IK)) (ICW_s pb_D pb_S (ICW_f (fun q hq => ?_) IW)) h9
  by_cases g : q < 116
  · exact E q g (by omega) (by omega)
  · exact E4 q (by omega)
/-- the class picks -/
theorem c_pick0 (H : J σ a n B) (hB : B ≤ 100000) (A1 : inD d ∧ (h ≠ 2 → thr a d z) ∧ (top ≠ 0 → 0 ≤ m ∧ m < a.measures)) (A2 : (0 ≤ h ∧ h ≤ 2) ∧ (0 ≤ top ∧ top ≤ 12) ∧ (h = 2 → 0 ≤ z ∧ z ≤ 11)) (A3 : h ≠ 2 → isP a d z) : Okk (f_C_pick σ d h z m top) fun r => r.1 = 0 ∧ ∃ T : Int, r.2.1 = T ∧ (∀ q : Nat, q < 116 → q ≠ dP d → q ≠ dP d + 12 → r.2.2 q = σ q) ∧ (∀ j : Int, j ≠ 2 → r.2.2 (dP d) j = σ (dP d) j) ∧ r.2.2 (dP d) 2 = T ∧ (∀ q : Nat, 125 ≤ q → r.2.2 q = σ q) ∧ ic9 r.2.2 (B + 60) ∧ ∃ yv : Int → Int, ((0 ≤ nC (askC a d h z) (a.many d).toNat ∧ nC (askC a d h z) (a.many d).toNat ≤ 12) ∧ (∀ i : Int, 0 ≤ i → i < nC (askC a d h z) (a.many d).toNat → thr a d (yv i) ∧ isP a d (yv i)) ∧ (∀ i : Int, 0 ≤ i → i < nC (askC a d h z) (a.many d).toNat → pkR a d (askC a d h z) (a.many d).toNat (12 * d + i) = yv i)) ∧ ((top = 0 ∧ T = nC (askC a d h z) (a.many d).toNat ∧ ∀ i : Int, 0 ≤ i → i < T → r.2.2 (dP d + 12) i = yv i) ∨ (top ≠ 0 ∧ ∃ c : Int, T = min c top ∧ c ≤ nC (askC a d h z) (a.many d).toNat ∧ Arr (mV a m d) (stP a m d yv (nC (askC a d h z) (a.many d).toNat)) (r.2.2 (dP d + 12)) c)) := by
  obtain ⟨W, K, V, I, VV, h1, h2⟩ := id H
  obtain ⟨R, IK, IW, I9⟩ := IC_r I
  obtain ⟨hd, B1, B2⟩ := A1
  have hdp := dP_b hd
  have hok : hOk a d h z := ⟨hd, by omega, fun q => ⟨B1 q, A3 q⟩, A2.2.2⟩
  unfold f_C_pick
  refine ok_eqb (nX_y hd) ?_
  rw [if_pos rfl]
  refine ok_call (P := fun j => j.1 = 0) (ok_ite (fun _ => ok_some rfl) (fun q => ok_eqb (nM_y W hd (icr_d R hd 0) (B1 q)) (by rw [if_pos rfl]; exact ok_some rfl))) ?_
  intro j1 hj1
  rw [if_pos hj1]
  refine ok_call (P := fun j => j.1 = 0) (ok_ite (fun _ => ok_some rfl) (fun q => ok_eqb (nS_y W R.2.2.2.2.2.1 (B2 q)) (by rw [if_pos rfl]; exact ok_some rfl))) ?_
  intro j2 hj2
  rw [if_pos hj2]
  refine ok_eqb (nR_y A2.1) ?_
  rw [if_pos rfl]
  refine ok_eqb (nR_y A2.2.1) ?_
  rw [if_pos rfl]
  refine ok_call (P := fun j => j.1 = 0) (ok_ite (fun _ => ok_some rfl) (fun q => ok_eqb (nR_y (A2.2.2 (Classical.not_not.mp q))) (by rw [if_pos rfl]; exact ok_some rfl))) ?_
  intro j3 hj3
  rw [if_pos hj3]
  refine ok_call (P := fun j => j = 1) (ok_ite (fun _ => ok_some rfl) (fun q => ?_)) ?_
  · refine ok_eqb (e_D_isPlain σ (dP d) z) ?_
    have ht := B1 q
    have hp : a.kind (12 * d + z) = 0 := A3 q
    have z12 := thr12 W hd ht
    have e0 : σ (dP d) 0 = a.many d := icr_d R hd 0
    have e5 : σ (dP d + 5) z = a.kind (12 * d + z) := (show ∀ m : Int, thr a d m → σ (dP d + 5) m = a.kind (12 * d + m) from icr_d R hd 3) z ht
    rw [e0, e5, bI_t ⟨z12.1, ht.2, z12.2, hp⟩, if_neg (by omega)]
    exact ok_some rfl
  rintro j rfl
  refine ok_eqb (e_C_need σ 1) ?_
  rw [if_neg (show ¬ (1 : Int) = 0 by omega), if_pos rfl]
  refine ok_call (c_pickAll W R hok) ?_
  rintro s ⟨E, P⟩
  have Y := pick_yv W hok P
  have e2 : s (dP d) 2 = nC (askC a d h z) (a.many d).toNat := P.1
  by_cases t0 : top = 0
  · rw [if_pos t0]
    refine ok_bind (ok_some (ok_some ⟨rfl, nC (askC a d h z) (a.many d).toNat, e2, fun q _ q2 q3 => E.1 q q2 q3, E.2, e2, fun q hq => E.1 q (by omega) (by omega), ?_, s (dP d + 12), ⟨Y.1, Y.2.1, Y.2.2.1⟩, Or.inl ⟨t0, rfl, fun i _ _ => rfl⟩⟩))
    unfold ic9 at I9 ⊢
    dsimp only
    rw [E.1 116 (by omega) (by omega), E.1 117 (by omega) (by omega)]
    exact ⟨I9.1, by omega, I9.2.2⟩
  · rw [if_neg t0]
    have hm := B2 t0
    have I9s : ic9 s B := by
      unfold ic9 at I9 ⊢
      rw [E.1 116 (by omega) (by omega), E.1 117 (by omega) (by omega)]
      exact I9
    refine ok_bind (ok_call (c_beg (a := a) W I9s (by omega) m) ?_)
    rintro s1 ⟨g1, g2, g3⟩
    have F : ktF σ s1 d (nC (askC a d h z) (a.many d).toNat) := ⟨fun q q1 q2 q3 => by rw [g2 q (by omega)]; exact E.1 q q2 q3, fun j hj => by rw [g2 (dP d) (by omega)]; exact E.2 j hj, by rw [g2 (dP d) (by omega)]; exact e2, fun q q1 => by rw [g2 q (by omega)]; exact E.1 q (by omega) (by omega)⟩
    have T0 : KT σ s1 a m d (nC (askC a d h z) (a.many d).toNat) (s (dP d + 12)) 0 0 := kt_0 (fun i _ _ => by rw [g2 (dP d + 12) (by omega)]) F g1 (by rw [g3, E.1 116 (by omega) (by omega)])
    refine ok_call (c_keepTop (n := n) W K hm.1 hm.2 R (ICW_fok IW) hd Y.1.1 Y.1.2 Y.2.1 Y.2.2.2 T0 (e_S_dimension s1 d) top) ?_
    rintro r ⟨u, c, rfl, ⟨c0, c1⟩, k2, k3, k4, k5, ⟨f1, f2, f3, f4⟩, k7, k8⟩
    refine ok_some (ok_some ⟨rfl, min c top, hs_eq, fun q q1 q2 q3 => ?_, fun j hj => ?_, hs_eq, fun q hq => ?_, ?_, s (dP d + 12), ⟨Y.1, Y.2.1, Y.2.2.1⟩, Or.inr ⟨t0, c, rfl, c1, ?_⟩⟩)
    · show hset u (dP d) 2 (min c top) q = σ q
      rw [hset_ne q2]; exact f1 q q1 q2 q3
    · show hset u (dP d) 2 (min c top) (dP d) j = _
      rw [hs_nj hj]; exact f2 j hj
    · show hset u (dP d) 2 (min c top) q = σ q
      rw [hset_ne (by omega)]; exact f4 q hq
    · show ic9 (hset u (dP d) 2 (min c top)) (B + 60)
      unfold ic9 at I9 ⊢
      rw [hset_ne (by omega), hset_ne (by omega), k8]
      exact ⟨by omega, by omega, by rw [← k8]; exact k7.2.1⟩
    · show Arr _ _ (hset u (dP d) 2 (min c top) (dP d + 12)) c
      rw [hset_ne (by omega)]; exact k2
theorem c_pick_e (H : J σ a n B) {cd : Nat} (hc : (¬ (inD d ∧ (h ≠ 2 → thr a d z) ∧ (top ≠ 0 → 0 ≤ m ∧ m < a.measures)) ∧ cd = 1) ∨ ((inD d ∧ (h ≠ 2 → thr a d z) ∧ (top ≠ 0 → 0 ≤ m ∧ m < a.measures)) ∧ ¬ ((0 ≤ h ∧ h ≤ 2) ∧ (0 ≤ top ∧ top ≤ 12) ∧ (h = 2 → 0 ≤ z ∧ z ≤ 11)) ∧ cd = 2) ∨ ((inD d ∧ (h ≠ 2 → thr a d z) ∧ (top ≠ 0 → 0 ≤ m ∧ m < a.measures)) ∧ ((0 ≤ h ∧ h ≤ 2) ∧ (0 ≤ top ∧ top ≤ 12) ∧ (h = 2 → 0 ≤ z ∧ z ≤ 11)) ∧ ¬ (h ≠ 2 → isP a d z) ∧ cd = 3)) : f_C_pick σ d h z m top = some (cd, 0, σ) := by
  obtain ⟨W, K, V, I, VV, h1, h2⟩ := id H
  obtain ⟨R, IK, IW, I9⟩ := IC_r I
  unfold f_C_pick
  apply ok_eq
  by_cases hd : inD d
  · refine ok_eqb (nX_y hd) ?_
    rw [if_pos rfl]
    by_cases B1 : h ≠ 2 → thr a d z
    · refine ok_call (P := fun j => j.1 = 0) (ok_ite (fun _ => ok_some rfl) (fun q => ok_eqb (nM_y W hd (icr_d R hd 0) (B1 q)) (by rw [if_pos rfl]; exact ok_some rfl))) ?_
      intro j1 hj1
      rw [if_pos hj1]
      by_cases B2 : top ≠ 0 → 0 ≤ m ∧ m < a.measures
      · have hA : inD d ∧ (h ≠ 2 → thr a d z) ∧ (top ≠ 0 → 0 ≤ m ∧ m < a.measures) := ⟨hd, B1, B2⟩
        refine ok_call (P := fun j => j.1 = 0) (ok_ite (fun _ => ok_some rfl) (fun q => ok_eqb (nS_y W R.2.2.2.2.2.1 (B2 q)) (by rw [if_pos rfl]; exact ok_some rfl))) ?_
        intro j2 hj2
        rw [if_pos hj2]
        by_cases C1 : 0 ≤ h ∧ h ≤ 2
        · refine ok_eqb (nR_y C1) ?_
          rw [if_pos rfl]
          by_cases C2 : 0 ≤ top ∧ top ≤ 12
          · refine ok_eqb (nR_y C2) ?_
            rw [if_pos rfl]
            by_cases C3 : h = 2 → 0 ≤ z ∧ z ≤ 11
            · refine ok_call (P := fun j => j.1 = 0) (ok_ite (fun _ => ok_some rfl) (fun q => ok_eqb (nR_y (C3 (Classical.not_not.mp q))) (by rw [if_pos rfl]; exact ok_some rfl))) ?_
              intro j3 hj3
              rw [if_pos hj3]
              have hc3 : ¬ (h ≠ 2 → isP a d z) ∧ cd = 3 := by
                rcases hc with q | q | q
                · exact absurd hA q.1
                · exact absurd ⟨C1, C2, C3⟩ q.2.1
                · exact q.2.2
              have h2n : h ≠ 2 := fun q => hc3.1 (fun w => absurd q w)
              have hp : ¬ isP a d z := fun q => hc3.1 (fun _ => q)
              refine ok_call (P := fun j => j = 0) ?_ ?_
              · rw [if_neg h2n]
                refine ok_eqb (e_D_isPlain σ (dP d) z) ?_
                have ht := B1 h2n
                have e5 : σ (dP d + 5) z = a.kind (12 * d + z) := (show ∀ m : Int, thr a d m → σ (dP d + 5) m = a.kind (12 * d + m) from icr_d R hd 3) z ht
                rw [e5, bI_f (fun w => hp w.2.2.2), if_pos rfl]
                exact ok_some rfl
              · rintro j rfl
                refine ok_eqb (e_C_need σ 0) ?_
                rw [if_pos rfl, if_neg (by omega)]
                exact ok_grd (by omega) (ok_some (by rw [hc3.2]))
            · have hc2 : cd = 2 := by
                rcases hc with q | q | q
                · exact absurd hA q.1
                · exact q.2.2
                · exact absurd q.2.1.2.2 C3
              have h2e : h = 2 := Classical.byContradiction (fun q => C3 (fun w => absurd w q))
              refine ok_call (P := fun j => j.1 = 2) ?_ ?_
              · rw [if_neg (fun q => q h2e)]
                refine ok_eqb (nR_n (fun q => C3 (fun _ => q))) ?_
                rw [if_neg (by omega)]
                exact ok_grd (by omega) (ok_some rfl)
              · intro j hj
                rw [if_neg (by omega)]
                exact ok_some (by rw [hj, hc2])
          · have hc2 : cd = 2 := by
              rcases hc with q | q | q
              · exact absurd hA q.1
              · exact q.2.2
              · exact absurd q.2.1.2.1 C2
            refine ok_eqb (nR_n C2) ?_
            rw [if_neg (by omega)]
            exact ok_grd (by omega) (ok_some (by rw [hc2]))
        · have hc2 : cd = 2 := by
            rcases hc with q | q | q
            · exact absurd hA q.1
            · exact q.2.2
            · exact absurd q.2.1.1 C1
          refine ok_eqb (nR_n C1) ?_
          rw [if_neg (by omega)]
          exact ok_grd (by omega) (ok_some (by rw [hc2]))
      · have hc1 : cd = 1 := by
          rcases hc with q | q | q
          · exact q.2
          · exact absurd q.1.2.2 B2
          · exact absurd q.1.2.2 B2
        have t0 : top ≠ 0 := fun q => B2 (fun w => absurd q w)
        refine ok_call (P := fun j => j.1 = 1) ?_ ?_
        · rw [if_neg t0]
          refine ok_eqb (nS_n R.2.2.2.2.2.1 (fun q => B2 (fun _ => q))) ?_
          rw [if_neg (by omega)]
          exact ok_grd (by omega) (ok_some rfl)
        · intro j hj
          rw [if_neg (by omega)]
          exact ok_some (by rw [hj, hc1])
    · have hc1 : cd = 1 := by
        rcases hc with q | q | q
        · exact q.2
        · exact absurd q.1.2.1 B1
        · exact absurd q.1.2.1 B1
      have h2n : h ≠ 2 := fun q => B1 (fun w => absurd q w)
      refine ok_call (P := fun j => j.1 = 1) ?_ ?_
      · rw [if_neg h2n]
        refine ok_eqb (nM_n (icr_d R hd 0) (fun q => B1 (fun _ => q))) ?_
        rw [if_neg (by omega)]
        exact ok_grd (by omega) (ok_some rfl)
      · intro j hj
        rw [if_neg (by omega)]
        exact ok_some (by rw [hj, hc1])
  · have hc1 : cd = 1 := by
      rcases hc with q | q | q
      · exact q.2
      · exact absurd q.1.1 hd
      · exact absurd q.1.1 hd
    refine ok_eqb (nX_n hd) ?_
    rw [if_neg (by simp)]
    exact ok_grd (by simp) (ok_some (by rw [hc1]))
end

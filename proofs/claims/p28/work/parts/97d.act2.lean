/-! ===== the law: an act ===== -/
section
variable {σ s : Hp} {a a' b : Ab} {n N : Nat} {B B' : Int} {e : Nat} {d : Int}
theorem l_act (H : J σ a (n % 1048576) B) (A : nA σ a) (hB : B ≤ 99000) (hN : n % 1048576 + 4 < 1048576) (y w : Int) : Okk (f_L_act σ n e y w) (ActQ σ a n e B) := by
  have W := H.1
  have h10 : 0 ≤ a.measures ∧ a.measures ≤ 4 ∧ _ := W 10
  have A3 := A.2.2.2
  unfold f_L_act
  refine ok_eqb (e_low σ y (by omega)) ?_
  have l3 := lw_b y (k := 3) (by omega)
  generalize lwV y 3 = d at *
  have hd : inD d := inD_of (by omega)
  have mb := many_b W hd
  have mb0 := many_b W iD0
  have mb1 := many_b W iD1
  have mb2 := many_b W iD2
  have ed := A.1 d hd
  have e0 := A.1 0 iD0
  have e1 := A.1 1 iD1
  have e2 := A.1 2 iD2
  have e3 := A.2.1
  refine ok_grd (by omega) ?_
  rw [ed]
  have l5 := lw_b (ishr y 2) (k := a.many d + 1) (by omega)
  refine ok_grd (by unfold r32; omega) (ok_eqb (e_low σ _ (by omega)) ?_)
  generalize lwV (ishr y 2) (a.many d + 1) = m at *
  refine ok_ite (fun _ => ?_) (fun _ => ok_ite (fun _ => ?_) (fun _ => ok_ite (fun _ => ?_) (fun _ => ok_ite (fun _ => ?_) (fun _ => ok_ite (fun _ => ?_) (fun _ => ok_ite (fun _ => ?_) (fun _ => ok_ite (fun _ => ?_) (fun _ => ok_ite (fun _ => ?_) (fun _ => ok_ite (fun _ => ?_) (fun _ => ok_ite (fun _ => ?_) (fun _ => ok_ite (fun _ => ?_) (fun _ => ok_ite (fun _ => ?_) (fun _ => ?_))))))))))))
  · -- a member
    refine ok_eqb (e_low σ _ (by omega)) (ok_grd (by omega) (ok_eqb (e_low σ _ (by omega)) ?_))
    have l12 := lw_b (ishr y 6) (k := 12) (by omega)
    have l2 := lw_b (ishr y 9) (k := 2) (by omega)
    have e4 : Int.tdiv (lwV (ishr y 6) 12) 4 = lwV (ishr y 6) 12 / 4 := Int.tdiv_eq_ediv_of_nonneg l12.1
    rw [e4]
    refine ok_grd (by unfold r32; omega) (ok_call (y_members H (by omega) d _ _) ?_)
    rintro r ⟨r1, a', c, K, Js⟩
    have gc := grow_c W hd c
    exact ok_grd (by omega) (act_end W hd A (K 129 (by omega) (by omega)) gc.1 (fun j hj => act_mk2 hd (by omega) (Or.inl rfl) hj K Js (by omega) gc.2))
  · -- a member
    refine ok_eqb (e_low σ _ (by omega)) (ok_grd (by omega) (ok_eqb (e_low σ _ (by omega)) ?_))
    have l12 := lw_b (ishr y 6) (k := 12) (by omega)
    have l2 := lw_b (ishr y 9) (k := 2) (by omega)
    have e4 : Int.tdiv (lwV (ishr y 6) 12) 4 = lwV (ishr y 6) 12 / 4 := Int.tdiv_eq_ediv_of_nonneg l12.1
    rw [e4]
    refine ok_grd (by unfold r32; omega) (ok_call (y_members H (by omega) d _ _) ?_)
    rintro r ⟨r1, a', c, K, Js⟩
    have gc := grow_c W hd c
    exact ok_grd (by omega) (act_end W hd A (K 129 (by omega) (by omega)) gc.1 (fun j hj => act_mk2 hd (by omega) (Or.inl rfl) hj K Js (by omega) gc.2))
  · -- a bridge
    refine ok_grd (by omega) (ok_call (P := fun u => u.2.2 ≤ e + 1 ∧ ∃ a', ((0 ≤ u.1 ∧ TKg a a' d) ∨ (u.1 < 0 ∧ a' = a)) ∧ (u.1 < -1 → -9 < u.1 → a' = a) ∧ kpQ σ u.2.1 ∧ J u.2.1 a' (n % 1048576) (B + 60)) ?_ ?_)
    · refine ok_ite (fun g => ok_grd (by omega) ?_) (fun _ => ok_some ⟨Nat.le_succ _, a, Or.inr ⟨by show (-9 : Int) < 0; omega, rfl⟩, fun _ _ => rfl, fun _ _ _ => rfl, J_up H (by omega)⟩)
      have hp : 0 < ishl 1 (a.many d) := by rw [shl_e (by omega) (by omega)]; exact Int.pow_pos (by omega)
      refine ok_eqb (e_low σ _ hp) (ok_call (y_bridges H (by omega) d _) ?_)
      rintro r ⟨r1, a', c, K, Js⟩
      have gc := grow_c W hd c
      exact ok_some ⟨r1, a', gc.1, gc.2, K, Js⟩
    · rintro u ⟨u1, a', uc, uq, uK, uJ⟩
      exact ok_grd (by omega) (act_end W hd A (uK 129 (by omega) (by omega)) uc (fun j hj => act_mk2 hd (by omega) (Or.inl rfl) hj uK uJ (by omega) uq))
  · -- a move
    refine ok_grd (by omega) (ok_eqb (e_low σ _ (by omega)) (ok_grd (by omega) ?_))
    rw [e0]
    refine ok_eqb (e_low σ _ (by omega)) (ok_call (y_moves H (by omega) d _ _ _) ?_)
    rintro r ⟨r1, a', c, K, Js⟩
    have T : TKs a a' ∧ (r.1 < -1 → -9 < r.1 → a' = a) := by
      rcases c with ⟨h1, h2⟩ | ⟨_, _, h⟩
      · exact ⟨h1, fun q _ => by omega⟩
      · exact ⟨by rw [h]; exact TKs_r _, fun _ _ => h⟩
    exact act_mk (by omega) (Or.inl rfl) (nA_s A (K 129 (by omega) (by omega)) T.1) K Js (by omega) T.2
  · -- as now
    refine ok_eqb (e_low σ _ (by omega)) (ok_10 (fun j hj => ok_call (i_asNow H hj) ?_))
    rintro r ⟨a', T, K, Js⟩
    refine ok_01 (fun j hj => ?_)
    exact act_mk (by omega) (Or.inl rfl) (nA_s A (K 129 (by omega) (by omega)) T) K Js (by omega) (fun q _ => by omega)
  · -- totals, hide
    refine ok_eqb (e_low σ _ (by omega)) (ok_ite (fun _ => act_tot H A _) (fun _ => ok_ite (fun _ => act_tot H A _) (fun _ => ok_ite (fun _ => act_tot H A _) (fun m0 => ok_grd (by omega) (ok_ite (fun _ => act_tot H A _) (fun m1 => ?_))))))
    have ht : thr a d m := ⟨by omega, by omega⟩
    refine ok_call (j_memberAt H hd ht (by omega)) ?_
    rintro v ⟨v1, v2⟩
    refine ok_grd v1 (ok_ite (fun k0 => ?_) (fun _ => act_tot H A _))
    have hp : isP a d m := by rw [v2, mAt_0] at k0; exact k0
    refine ok_eqb (e_low σ _ (by omega)) (ok_10 (fun j hj => ok_call (i_hide H (by omega) d m j hj) ?_))
    rintro r ⟨_, a', r1, r2, K, Js⟩
    have h0 : r.1 = 0 := Classical.byContradiction (fun q => (r2 q).2 ⟨⟨⟨hd, ht⟩, m0⟩, hp⟩)
    refine ok_grd h0 (ok_01 (fun j hj => ?_))
    exact act_mk (by omega) (Or.inl rfl) (nA_s A (K 129 (by omega) (by omega)) (r1 h0)) K Js (by omega) (fun q _ => by omega)
  · -- words
    refine act_words (e := e) H hB y (fun j hj => ?_)
    obtain ⟨j1, b, jT, jK, jJ⟩ := hj
    have Ab := nA_s A (jK 129 (by omega) (by omega)) jT
    have mb2 := many_b jJ.1 hd
    refine ok_grd (by omega) (ok_call (P := fun u => u.2.2.2 ≤ e + 4 ∧ (u.2.2.1 = n ∨ u.2.2.1 = n + 4) ∧ ∃ a', ((0 ≤ u.1 ∧ TKg b a' d) ∨ (u.1 < 0 ∧ a' = b)) ∧ kpQ j.1 u.2.1 ∧ J u.2.1 a' (u.2.2.1 % 1048576) (B + 240)) ?_ ?_)
    · refine ok_ite (fun _ => ok_eqb (e_low _ _ (by omega)) (ok_call (y_calculates jJ (by omega) hN hd _) ?_)) (fun _ => ok_some ⟨by dsimp only; omega, Or.inl rfl, b, Or.inr ⟨by show (-9 : Int) < 0; omega, rfl⟩, fun _ _ _ => rfl, J_up jJ (by omega)⟩)
      rintro u ⟨u1, u2, a', uc, uK, uJ⟩
      exact ok_some ⟨by dsimp only; omega, u2, a', uc, uK, J_up uJ (by omega)⟩
    · rintro u ⟨u1, u2, a', uc, uK, uJ⟩
      exact ok_grd (by omega) (act_end jJ.1 hd Ab (uK 129 (by omega) (by omega)) uc (fun i hi => act_mk2 hd u1 u2 hi (kpQ_t jK uK) uJ (by omega) (fun _ q => by omega)))
  · -- words
    refine act_words (e := e) H hB y (fun j hj => ?_)
    obtain ⟨j1, b, jT, jK, jJ⟩ := hj
    have Ab := nA_s A (jK 129 (by omega) (by omega)) jT
    have mb2 := many_b jJ.1 hd
    refine ok_grd (by omega) (ok_call (P := fun u => u.2.2.2 ≤ e + 4 ∧ (u.2.2.1 = n ∨ u.2.2.1 = n + 4) ∧ ∃ a', ((0 ≤ u.1 ∧ TKg b a' d) ∨ (u.1 < 0 ∧ a' = b)) ∧ kpQ j.1 u.2.1 ∧ J u.2.1 a' (u.2.2.1 % 1048576) (B + 240)) ?_ ?_)
    · refine ok_ite (fun _ => ok_eqb (e_low _ _ (by omega)) (ok_call (y_calculates jJ (by omega) hN hd _) ?_)) (fun _ => ok_some ⟨by dsimp only; omega, Or.inl rfl, b, Or.inr ⟨by show (-9 : Int) < 0; omega, rfl⟩, fun _ _ _ => rfl, J_up jJ (by omega)⟩)
      rintro u ⟨u1, u2, a', uc, uK, uJ⟩
      exact ok_some ⟨by dsimp only; omega, u2, a', uc, uK, J_up uJ (by omega)⟩
    · rintro u ⟨u1, u2, a', uc, uK, uJ⟩
      exact ok_grd (by omega) (act_end jJ.1 hd Ab (uK 129 (by omega) (by omega)) uc (fun i hi => act_mk2 hd u1 u2 hi (kpQ_t jK uK) uJ (by omega) (fun _ q => by omega)))
  · -- a measure
    refine ok_grd (by omega) (ok_call (P := fun u => u.2.2 ≤ e + 1 ∧ ∃ a', nA u.2.1 a' ∧ (u.1 < -1 → -9 < u.1 → a' = a) ∧ (∀ q : Nat, 1048576 ≤ q → u.2.1 q = σ q) ∧ J u.2.1 a' (n % 1048576) (B + 60)) ?_ ?_)
    · rw [e3]
      refine ok_ite (fun g => ok_grd (by omega) ?_) (fun g => ?_)
      · rw [if_pos (by omega)]
        refine ok_eqb (e_low σ _ (by omega)) (ok_grd (by omega) (ok_grd (by unfold r32; omega) (ok_eqb (e_low σ _ (by omega)) (ok_grd (by omega) (ok_grd (by unfold r32; omega) (ok_eqb (e_low σ _ (by omega)) (ok_call (y_measures H (by omega) _ _ _) ?_)))))))
        rintro r ⟨r1, a', c, K, Js⟩
        have K9 := K 129 (by omega) (by omega)
        unfold f_L_grow
        refine ok_bind (ok_grd (by omega) (ok_call (P := fun j => j = if 0 ≤ r.1 then 1 else 0) (ok_ite (fun g => ok_some (if_pos g).symm) (fun g => ok_some (if_neg g).symm)) ?_))
        intro j hj
        have j2 : 0 ≤ j ∧ j ≤ 1 := by
          by_cases g : 0 ≤ r.1
          · rw [if_pos g] at hj; omega
          · rw [if_neg g] at hj; omega
        refine ok_grd (by rw [K9, e3]; unfold r32; omega) (ok_grd (by omega) (ok_some (ok_some ⟨r1, a', ?_, ?_, fun q q1 => ?_, J_h Js (fun q hq => hset_ne (by omega))⟩)))
        · show nA (hset r.2.2 129 3 (r.2.2 129 3 + j)) a'
          rcases c with ⟨c1, c2, c3, c4⟩ | ⟨_, c1, c2⟩
          · rw [if_pos (by omega)] at hj
            subst hj
            refine ⟨fun k hk => ?_, ?_, ?_, by omega⟩
            · have := inD_b hk
              rw [hs_nj (by omega), K9, c2 k hk]; exact A.1 k hk
            · rw [hs_eq, K9, c3, e3]
            · rw [hs_nj (by omega), K9, c4]; exact A.2.2.1
          · rw [if_neg (by omega)] at hj
            subst hj
            subst c2
            refine ⟨fun k hk => ?_, ?_, ?_, A3⟩
            · have := inD_b hk
              rw [hs_nj (by omega), K9]; exact A.1 k hk
            · rw [hs_eq, K9, e3]; omega
            · rw [hs_nj (by omega), K9]; exact A.2.2.1
        · intro q1 q2
          rcases c with ⟨c1, _⟩ | ⟨_, _, c2⟩
          · dsimp only at q1; omega
          · exact c2
        · dsimp only; rw [hset_ne (by omega)]; exact K q (by omega) (by omega)
      · refine ok_eqb (e_low σ _ (by omega)) (ok_call (y_measures H (by omega) _ _ _) ?_)
        rintro r ⟨r1, a', c, K, Js⟩
        have ea : a' = a := by
          rcases c with ⟨c1, c2, c3, c4⟩ | ⟨_, _, h⟩
          · have g10 : 0 ≤ a'.measures ∧ a'.measures ≤ 4 ∧ _ := Js.1 10
            omega
          · exact h
        subst ea
        exact ok_some ⟨r1, a', nA_s A (K 129 (by omega) (by omega)) (TKs_r _), fun _ _ => rfl, fun q q1 => K q (by omega) (by omega), Js⟩
    · rintro u ⟨u1, a', uA, uq, uK, uJ⟩
      exact ok_some ⟨by dsimp only; omega, Or.inl rfl, a', uA, uK, J_up uJ (by omega), uq⟩
  · -- from
    rw [e3]
    have lm := lw_b (ishr y 3) (k := a.measures) (by omega)
    have lv := lw_b (ishr y 5) (k := 3) (by omega)
    refine ok_grd (by omega) (ok_eqb (e_low σ _ (by omega)) (ok_eqb (e_low σ _ (by omega)) (ok_call (i_from H (by omega) _ d _) ?_)))
    rintro r ⟨_, a', r1, r2, K, Js⟩
    have h0 : r.1 = 0 := Classical.byContradiction (fun q => (r2 q).2 ⟨⟨lm, hd⟩, by omega⟩)
    have h11 : ∀ i : Int, 0 ≤ i → i < 12 → 0 ≤ a.md i ∧ a.md i ≤ 11 := W 11
    obtain ⟨T, ev⟩ := r1 h0
    have hv := h11 (3 * lwV (ishr y 3) a.measures + d) (by omega) (by omega)
    exact ok_grd h0 (act_mk (by omega) (Or.inl rfl) (nA_s A (K 129 (by omega) (by omega)) T) K Js (by omega) (fun q _ => by omega))
  · -- writing
    rw [e0, e1, e2, e3]
    have l4 := lw_b (ishr y 4) (k := 2000) (by omega)
    refine ok_grd (by omega) (ok_grd (by unfold r32; omega) (ok_eqb (e_low σ _ (by omega)) (ok_grd (by omega) (ok_eqb (e_low σ _ (by omega)) (ok_grd (by omega) (ok_eqb (e_low σ _ (by omega)) (ok_grd (by omega) (ok_eqb (e_low σ _ (by omega)) (ok_eqb (e_low σ _ (by omega)) (ok_grd (by unfold r32; omega) (ok_eqb (e_low σ _ (by omega)) (ok_call (y_writes H (by omega) _ _ _ _ _ _) ?_))))))))))))
    rintro r ⟨r1, a', c, K, Js⟩
    have T : TKs a a' ∧ (r.1 < -1 → -9 < r.1 → a' = a) := by
      rcases c with ⟨h1, h2⟩ | ⟨_, _, h⟩
      · exact ⟨h1, fun q _ => by omega⟩
      · exact ⟨by rw [h]; exact TKs_r _, fun _ _ => h⟩
    exact act_mk (by omega) (Or.inl rfl) (nA_s A (K 129 (by omega) (by omega)) T.1) K Js (by omega) T.2
  · -- sessions
    refine ok_eqb (e_low σ _ (by omega)) (ok_call (P := fun u => u.2.2 ≤ e + 1 ∧ ∃ a', TKs a a' ∧ (u.1 < -1 → -9 < u.1 → a' = a) ∧ kpQ σ u.2.1 ∧ J u.2.1 a' (n % 1048576) (B + 60)) ?_ ?_)
    · refine ok_ite (fun _ => ok_eqb (e_low σ _ (by omega)) (ok_10 (fun j hj => ok_call (y_ends H (by omega) _) ?_))) (fun _ => ok_call (y_begins H) ?_)
      · rintro r ⟨r1, a', c, K, Js⟩
        rcases c with ⟨h1, h2⟩ | ⟨_, _, h⟩
        · exact ok_some ⟨r1, a', h1, fun q _ => by dsimp only at q; omega, K, Js⟩
        · exact ok_some ⟨r1, a', by rw [h]; exact TKs_r _, fun _ _ => h, K, Js⟩
      · rintro r ⟨r1, a', c, K, Js⟩
        rcases c with ⟨h1, h2⟩ | ⟨_, _, h⟩
        · exact ok_some ⟨r1, a', h1, fun q _ => by dsimp only at q; omega, K, Js⟩
        · exact ok_some ⟨r1, a', by rw [h]; exact TKs_r _, fun _ _ => h, K, Js⟩
    · rintro u ⟨u1, a', T, uq, uK, uJ⟩
      exact act_mk (by omega) (Or.inl rfl) (nA_s A (uK 129 (by omega) (by omega)) T) uK uJ (by omega) uq
  · -- a fact
    rw [e0, e1, e2, e3]
    have l4 := lw_b (ishr y 4) (k := 3000) (by omega)
    refine ok_grd (by omega) (ok_grd (by unfold r32; omega) (ok_eqb (e_low σ _ (by omega)) (ok_grd (by omega) (ok_eqb (e_low σ _ (by omega)) (ok_grd (by omega) (ok_eqb (e_low σ _ (by omega)) (ok_grd (by omega) (ok_grd (by unfold r32; omega) (ok_eqb (e_low σ _ (by omega)) (ok_eqb (e_low σ _ (by omega)) (ok_grd (by unfold r32; omega) (ok_call (y_facts H (by omega) _ _ _ _ _) ?_))))))))))))
    rintro r ⟨r1, a', c, K, Js⟩
    have T : TKs a a' ∧ (r.1 < -1 → -9 < r.1 → a' = a) := by
      rcases c with ⟨h1, h2⟩ | ⟨_, _, h⟩
      · exact ⟨h1, fun q _ => by omega⟩
      · exact ⟨by rw [h]; exact TKs_r _, fun _ _ => h⟩
    exact act_mk (by omega) (Or.inl rfl) (nA_s A (K 129 (by omega) (by omega)) T.1) K Js (by omega) T.2
end

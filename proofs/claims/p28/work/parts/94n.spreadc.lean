/-! ===== the class spreads ===== -/
section
variable {σ : Hp} {own : Int → Int} {N : Nat} {v : Int}
def sch (σ s : Hp) : Prop := ∀ q : Nat, q ≠ 114 → q ≠ 115 → s q = σ q
/-- what is to be spread -/
def spC (σ : Hp) (own : Int → Int) (N : Nat) (v : Int) : Prop := σ 112 0 = N ∧ σ 112 1 = v ∧ (∀ i : Int, 0 ≤ i → i < N → σ 113 i = own i) ∧ (0 < N ∧ N ≤ 50) ∧ (0 ≤ v ∧ v ≤ 1000000) ∧ ∀ i : Int, 0 ≤ i → i < N → -1000000 ≤ own i ∧ own i ≤ 1000000
theorem spC_s {s : Hp} (H : spC σ own N v) (E : sch σ s) : spC s own N v := by
  obtain ⟨h0, h1, h2, h3⟩ := H
  exact ⟨by rw [E 112 (by omega) (by omega)]; exact h0, by rw [E 112 (by omega) (by omega)]; exact h1, by rw [E 113 (by omega) (by omega)]; exact h2, h3⟩
theorem c_equally (H : spC σ own N v) : Okk (f_SP_equally σ) fun s => sch σ s ∧ ∀ i : Int, 0 ≤ i → i < N → s 114 i = v.tdiv N + (if i < v.tmod N then 1 else 0) := by
  obtain ⟨N0, N1⟩ := H.2.2.2.1
  obtain ⟨v0, v1⟩ := H.2.2.2.2.1
  have eb := eq_b v0 v1 N0
  have L : ∀ (F k : Nat) (s : Hp), k ≤ N → N - k < F → sch σ s → (∀ i : Int, 0 ≤ i → i < k → s 114 i = v.tdiv N + (if i < v.tmod N then 1 else 0)) → Okk (f_SP_equally_10 F k s) fun r => sch σ r.2 ∧ ∀ i : Int, 0 ≤ i → i < N → r.2 114 i = v.tdiv N + (if i < v.tmod N then 1 else 0) := by
    intro F
    induction F with
    | zero => intro k s k1 hF; omega
    | succ F ih =>
      intro k s k1 hF E hi
      have Hs := spC_s H E
      rw [f_SP_equally_10, Hs.1, Hs.2.1]
      refine ok_ite (fun g => ok_some ⟨E, fun i i0 i1 => hi i i0 (by omega)⟩) (fun g => ok_grd ⟨by omega, by (first | omega | (unfold r32; omega) | (unfold r64; omega) | (simp only [r32, r64] at *; omega))⟩ (ok_grd (by omega) ?_))
      refine ok_call (P := fun j => j = if (k : Int) < v.tmod N then 1 else 0) ?_ ?_
      · refine ok_ite (fun q => ok_some (by rw [if_neg (by have := lcm_ge.mp q; omega)])) (fun q => ok_some (by rw [if_pos (Classical.byContradiction (fun w => q (lcm_ge.mpr (by omega))))]))
      · intro j hj
        have j01 : 0 ≤ j ∧ j ≤ 1 := by
          rw [hj]
          by_cases w : (k : Int) < v.tmod N
          · rw [if_pos w]; omega
          · rw [if_neg w]; omega
        refine ok_grd (by (first | omega | (unfold r32; omega) | (unfold r64; omega) | (simp only [r32, r64] at *; omega))) (ok_grd (by omega) (ok_grd (by (first | omega | (unfold r32; omega) | (unfold r64; omega) | (simp only [r32, r64] at *; omega))) ?_))
        rw [show ((k : Int) + 1) = ((k + 1 : Nat) : Int) by omega]
        refine ih (k + 1) _ (by omega) (by omega) (fun q q1 q2 => by rw [hset_ne q1]; exact E q q1 q2) (fun i i0 i1 => ?_)
        by_cases w : i = k
        · rw [w, hs_eq, hj]
        · rw [hs_nj w]; exact hi i i0 (by omega)
  unfold f_SP_equally
  rw [H.1, if_pos (by omega)]
  refine ok_call (L zFuel 0 σ (by omega) (by unfold zFuel; omega) (fun _ _ _ => rfl) (fun i i0 i1 => by omega)) (fun r hr => ok_some hr)
theorem c_leaveRest (H : spC σ own N v) : Okk (f_SP_leaveRest σ (sm own N)) fun s => sch σ s ∧ ∀ i : Int, 0 ≤ i → i < N → s 114 i = if i = 0 then v - (sm own N - own 0) else own i := by
  obtain ⟨N0, N1⟩ := H.2.2.2.1
  obtain ⟨v0, v1⟩ := H.2.2.2.2.1
  have ob := H.2.2.2.2.2
  have sb := sm_b (U := 1000000) N (fun i i0 i1 => by have := ob i i0 i1; omega)
  have o0 := ob 0 (by omega) (by omega)
  have L : ∀ (F k : Nat) (s : Hp), k ≤ N → N - k < F → sch σ s → (∀ i : Int, 0 ≤ i → i < k → s 114 i = if i = 0 then v - (sm own N - own 0) else own i) → Okk (f_SP_leaveRest_2 (sm own N) F k s) fun r => sch σ r.2 ∧ ∀ i : Int, 0 ≤ i → i < N → r.2 114 i = if i = 0 then v - (sm own N - own 0) else own i := by
    intro F
    induction F with
    | zero => intro k s k1 hF; omega
    | succ F ih =>
      intro k s k1 hF E hi
      have Hs := spC_s H E
      rw [f_SP_leaveRest_2, Hs.1, Hs.2.1]
      refine ok_ite (fun g => ok_some ⟨E, fun i i0 i1 => hi i i0 (by omega)⟩) (fun g => ?_)
      rw [Hs.2.2.1 k (by omega) (by omega), Hs.2.2.1 0 (by omega) (by omega)]
      refine ok_call (P := fun j => j = if (k : Int) = 0 then v - (sm own N - own 0) else own k) ?_ ?_
      · refine ok_ite (fun q => ok_grd (by omega) (ok_some (by rw [if_neg q]))) (fun q => ok_grd (by omega) (ok_grd (by (first | omega | (unfold r32; omega) | (unfold r64; omega) | (simp only [r32, r64] at *; omega))) (ok_grd (by (first | omega | (unfold r32; omega) | (unfold r64; omega) | (simp only [r32, r64] at *; omega))) (ok_some (by rw [if_pos (Classical.not_not.mp q)])))))
      · intro j hj
        refine ok_grd (by omega) (ok_grd (by (first | omega | (unfold r32; omega) | (unfold r64; omega) | (simp only [r32, r64] at *; omega))) ?_)
        rw [show ((k : Int) + 1) = ((k + 1 : Nat) : Int) by omega]
        refine ih (k + 1) _ (by omega) (by omega) (fun q q1 q2 => by rw [hset_ne q1]; exact E q q1 q2) (fun i i0 i1 => ?_)
        by_cases w : i = k
        · rw [w, hs_eq, hj]
        · rw [hs_nj w]; exact hi i i0 (by omega)
  unfold f_SP_leaveRest
  exact ok_call (L zFuel 0 σ (by omega) (by unfold zFuel; omega) (fun _ _ _ => rfl) (fun i i0 i1 => by omega)) (fun r hr => ok_some hr)
theorem c_greatest (h0 : σ 112 0 = N) (N0 : 0 < N) (N1 : N ≤ 50) : f_SP_greatestRemainder σ = some (gI (σ 115) N) := by
  have L : ∀ (F k : Nat), 1 ≤ k → k ≤ N → N - k < F → Okk (f_SP_greatestRemainder_4 σ F (gI (σ 115) k) k) fun r => r.1 = gI (σ 115) N := by
    intro F
    induction F with
    | zero => intro k k0 k1 hF; omega
    | succ F ih =>
      intro k k0 k1 hF
      have gb := gI_b (σ 115) k
      have gb2 := gb.2 (by omega)
      rw [f_SP_greatestRemainder_4, h0]
      refine ok_ite (fun g => ok_some (by rw [show N = k by omega])) (fun g => ok_grd (by omega) (ok_grd (by omega) ?_))
      refine ok_call (P := fun j => j = gI (σ 115) (k + 1)) ?_ ?_
      · rw [gI_s (by omega)]
        refine ok_ite (fun q => ok_some (by rw [if_neg (by have := lcm_le.mp q; omega)])) (fun q => ok_some (by rw [if_pos (Classical.byContradiction (fun w => q (lcm_le.mpr (by omega))))]))
      · rintro j rfl
        refine ok_grd (by (first | omega | (unfold r32; omega) | (unfold r64; omega) | (simp only [r32, r64] at *; omega))) ?_
        rw [show ((k : Int) + 1) = ((k + 1 : Nat) : Int) by omega]
        exact ih (k + 1) (by omega) (by omega) (by omega)
  unfold f_SP_greatestRemainder
  have e1 : gI (σ 115) 1 = 0 := by show (if 0 < 0 ∧ _ then _ else _) = _; rw [if_neg (by omega)]; rfl
  have := L zFuel 1 (by omega) (by omega) (by unfold zFuel; omega)
  rw [e1] at this
  exact ok_eq (ok_call this (fun r hr => ok_some hr))
theorem c_byW15 (H : spC σ own N v) (h0 : ∀ i : Int, 0 ≤ i → i < N → 0 ≤ own i) {A : Int} (A0 : 0 < A) (A1 : A ≤ 50000000) : ∀ (F k : Nat) (s : Hp), k ≤ N → N - k < F → sch σ s → (∀ i : Int, 0 ≤ i → i < k → s 114 i = (v * own i).tdiv A ∧ s 115 i = (v * own i).tmod A) → Okk (f_SP_byWeights_15 A F (v - sm (fun i => (v * own i).tdiv A) k) k s) fun r => r.1 = v - sm (fun i => (v * own i).tdiv A) N ∧ sch σ r.2.2 ∧ ∀ i : Int, 0 ≤ i → i < N → r.2.2 114 i = (v * own i).tdiv A ∧ r.2.2 115 i = (v * own i).tmod A := by
  obtain ⟨N0, N1⟩ := H.2.2.2.1
  obtain ⟨v0, v1⟩ := H.2.2.2.2.1
  have ob := H.2.2.2.2.2
  intro F
  induction F with
  | zero => intro k s k1 hF; omega
  | succ F ih =>
    intro k s k1 hF E hi
    have Hs := spC_s H E
    rw [f_SP_byWeights_15, Hs.1]
    refine ok_ite (fun g => ok_some ⟨by rw [show N = k by omega], E, fun i i0 i1 => hi i i0 (by omega)⟩) (fun g => ?_)
    have ok := ob k (by omega) (by omega)
    have qb := q_b v0 v1 (h0 k (by omega) (by omega)) ok.2 A0
    have sb := sm_b (f := fun i => (v * own i).tdiv A) (U := 1000000000000) k (fun i i0 i1 => by
      have := q_b v0 v1 (h0 i i0 (by omega)) (ob i i0 (by omega)).2 A0
      omega)
    have e1 : ∀ w : Int, (hset s 114 k w) 112 1 = v := fun w => by rw [hset_ne (by omega)]; exact Hs.2.1
    have e2 : ∀ w : Int, (hset s 114 k w) 113 k = own k := fun w => by rw [hset_ne (by omega)]; exact Hs.2.2.1 k (by omega) (by omega)
    have e3 : ∀ w u : Int, (hset (hset s 114 k w) 115 k u) 114 k = w := fun w u => by rw [hset_ne (by omega), hs_eq]
    rw [Hs.2.1, Hs.2.2.1 k (by omega) (by omega), e1, e2, e3]
    refine ok_grd (by omega) (ok_grd (by (first | omega | (unfold r32; omega) | (unfold r64; omega) | (simp only [r32, r64] at *; omega))) (ok_grd ⟨by omega, by (first | omega | (unfold r32; omega) | (unfold r64; omega) | (simp only [r32, r64] at *; omega))⟩ (ok_grd (by omega) (ok_grd (by omega) (ok_grd (by (first | omega | (unfold r32; omega) | (unfold r64; omega) | (simp only [r32, r64] at *; omega))) (ok_grd A0 (ok_grd (by omega) (ok_grd (by omega) (ok_grd (by (first | omega | (unfold r32; omega) | (unfold r64; omega) | (simp only [r32, r64] at *; omega))) (ok_grd (by (first | omega | (unfold r32; omega) | (unfold r64; omega) | (simp only [r32, r64] at *; omega))) ?_))))))))))
    have es : v - sm (fun i => (v * own i).tdiv A) k - (v * own k).tdiv A = v - sm (fun i => (v * own i).tdiv A) (k + 1) := by rw [sm_s]; omega
    rw [es, show ((k : Int) + 1) = ((k + 1 : Nat) : Int) by omega]
    refine ih (k + 1) _ (by omega) (by omega) (fun q q1 q2 => by rw [hset_ne q2, hset_ne q1]; exact E q q1 q2) (fun i i0 i1 => ?_)
    by_cases w : i = k
    · rw [w, e3, hs_eq]; exact ⟨rfl, rfl⟩
    · rw [hset_ne (by omega), hs_nj w, hs_nj w, hset_ne (by omega)]; exact hi i i0 (by omega)
theorem c_byW85 (H : spC σ own N v) {G R : Int → Int} (hG : ∀ i : Int, 0 ≤ i → i < N → 0 ≤ G i ∧ G i ≤ 1000000000000) {K : Nat} (hK : K ≤ N) {j17 : Int × Int × Hp} (hj : j17.1 = K) : ∀ (F k : Nat) (s : Hp), k ≤ K → K - k < F → sch σ s → (∀ i : Int, 0 ≤ i → i < N → s 114 i = (wtG N G R k).1 i ∧ s 115 i = (wtG N G R k).2 i) → Okk (f_SP_byWeights_85 j17 F k s) fun r => sch σ r.2 ∧ ∀ i : Int, 0 ≤ i → i < N → r.2 114 i = (wtG N G R K).1 i := by
  obtain ⟨N0, N1⟩ := H.2.2.2.1
  intro F
  induction F with
  | zero => intro k s k1 hF; omega
  | succ F ih =>
    intro k s k1 hF E hi
    have Hs := spC_s H E
    rw [f_SP_byWeights_85, hj, Hs.1]
    refine ok_ite (fun g => ok_some ⟨E, fun i i0 i1 => by rw [show K = k by have := lcm_ge.mp g; omega]; exact (hi i i0 i1).1⟩) (fun g => ?_)
    have g2 : (k : Int) < K := Classical.byContradiction (fun w => g (lcm_ge.mpr (by omega)))
    rw [if_neg (by omega)]
    refine ok_eqb (c_greatest Hs.1 N0 N1) ?_
    have eg : gI (s 115) N = gI (wtG N G R k).2 N := gI_c N (fun i i0 i1 => (hi i i0 i1).2)
    rw [eg]
    have gb := gI_b (wtG N G R k).2 N
    have gb2 := gb.2 N0
    have wb := wtG_b (R := R) N0 hG k _ gb.1 gb2
    have hg := hi _ gb.1 gb2
    rw [hg.1]
    refine ok_grd (by omega) (ok_grd (by (first | omega | (unfold r32; omega) | (unfold r64; omega) | (simp only [r32, r64] at *; omega))) (ok_grd (by omega) (ok_grd (by omega) (ok_grd (by (first | omega | (unfold r32; omega) | (unfold r64; omega) | (simp only [r32, r64] at *; omega))) ?_))))
    rw [show ((k : Int) + 1) = ((k + 1 : Nat) : Int) by omega]
    refine ih (k + 1) _ (by omega) (by omega) (fun q q1 q2 => by rw [hset_ne q2, hset_ne q1]; exact E q q1 q2) (fun i i0 i1 => ?_)
    have hi' := hi i i0 i1
    show (hset (hset s 114 (gI (wtG N G R k).2 N) ((wtG N G R k).1 (gI (wtG N G R k).2 N) + 1)) 115 (gI (wtG N G R k).2 N) (-1)) 114 i = upF (wtG N G R k).1 (gI (wtG N G R k).2 N) ((wtG N G R k).1 (gI (wtG N G R k).2 N) + 1) i ∧ _ = upF (wtG N G R k).2 (gI (wtG N G R k).2 N) (-1) i
    rw [hset_ne (show (114 : Nat) ≠ 115 by omega), hs_if, hs_if, hset_ne (show (115 : Nat) ≠ 114 by omega), hi'.1, hi'.2]
    exact ⟨rfl, rfl⟩
theorem c_byWeights (H : spC σ own N v) (h0 : ∀ i : Int, 0 ≤ i → i < N → 0 ≤ own i) (A0 : 0 < sm own N) : Okk (f_SP_byWeights σ (sm own N)) fun s => sch σ s ∧ ∀ i : Int, 0 ≤ i → i < N → s 114 i = (wtG N (fun i => (v * own i).tdiv (sm own N)) (fun i => (v * own i).tmod (sm own N)) (v - sm (fun i => (v * own i).tdiv (sm own N)) N).toNat).1 i := by
  obtain ⟨N0, N1⟩ := H.2.2.2.1
  obtain ⟨v0, v1⟩ := H.2.2.2.2.1
  have ob := H.2.2.2.2.2
  have sb := sm_b (U := 1000000) N (fun i i0 i1 => by have := ob i i0 i1; omega)
  have lb := lft_b rfl A0 v0 h0
  unfold f_SP_byWeights
  rw [if_pos (lcm_gt.mpr A0), H.2.1]
  have L := c_byW15 H h0 A0 (by omega) zFuel 0 σ (by omega) (by unfold zFuel; omega) (fun _ _ _ => rfl) (fun i i0 i1 => by omega)
  rw [show v - sm (fun i => (v * own i).tdiv (sm own N)) 0 = v by show v - 0 = v; omega] at L
  refine ok_call L ?_
  rintro r ⟨r1, r2, r3⟩
  have L2 := c_byW85 (R := fun i => (v * own i).tmod (sm own N)) (spC_s H r2) (G := fun i => (v * own i).tdiv (sm own N)) (fun i i0 i1 => by
    have := q_b v0 v1 (h0 i i0 i1) (ob i i0 i1).2 A0
    omega) (K := (v - sm (fun i => (v * own i).tdiv (sm own N)) N).toNat) (by omega) (j17 := r) (by rw [r1]; omega) zFuel 0 r.2.2 (by omega) (by unfold zFuel; omega) (fun _ _ _ => rfl) (fun i i0 i1 => r3 i i0 i1)
  refine ok_call L2 ?_
  rintro u ⟨u1, u2⟩
  exact ok_some ⟨fun q q1 q2 => (u1 q q1 q2).trans (r2 q q1 q2), u2⟩
theorem c_share17 (H : spC σ own N v) (j1 : Int) (hj : 0 ≤ j1 ∧ j1 ≤ 1) : Okk (f_SP_share_17 σ zFuel 0 j1 0) fun r => r.1 = sm own N ∧ r.2.1 = bI (j1 = 1 ∧ ∀ i : Int, 0 ≤ i → i < N → 0 ≤ own i) := by
  obtain ⟨N0, N1⟩ := H.2.2.2.1
  have ob := H.2.2.2.2.2
  have L : ∀ (F k : Nat) (w : Int), k ≤ N → N - k < F → w = bI (j1 = 1 ∧ ∀ i : Int, 0 ≤ i → i < k → 0 ≤ own i) → Okk (f_SP_share_17 σ F (sm own k) w k) fun r => r.1 = sm own N ∧ r.2.1 = bI (j1 = 1 ∧ ∀ i : Int, 0 ≤ i → i < N → 0 ≤ own i) := by
    intro F
    induction F with
    | zero => intro k w k1 hF; omega
    | succ F ih =>
      intro k w k1 hF hw
      have sb := sm_b (U := 1000000) k (fun i i0 i1 => by have := ob i i0 (by omega); omega)
      have ok := ob k
      rw [f_SP_share_17, H.1]
      refine ok_ite (fun g => ok_some ⟨by rw [show N = k by omega], by rw [show N = k by omega]; exact hw⟩) (fun g => ?_)
      have ok := ob k (by omega) (by omega)
      rw [H.2.2.1 k (by omega) (by omega)]
      refine ok_grd (by omega) (ok_grd (by (first | omega | (unfold r32; omega) | (unfold r64; omega) | (simp only [r32, r64] at *; omega))) ?_)
      refine ok_call (P := fun j => j = bI (j1 = 1 ∧ ∀ i : Int, 0 ≤ i → i < ((k + 1 : Nat) : Int) → 0 ≤ own i)) ?_ ?_
      · refine ok_ite (fun q => ok_some ?_) (fun q => ok_grd (by omega) (ok_ite (fun q2 => ok_some ?_) (fun q2 => ok_some ?_)))
        · rw [q] at hw
          exact (bI_f (fun z => bI_0.mp hw.symm ⟨z.1, fun i i0 i1 => z.2 i i0 (by omega)⟩)).symm
        · exact (bI_f (fun z => by have := z.2 k (by omega) (by omega); have := lcm_lt.mp q2; omega)).symm
        · have hz : j1 = 1 ∧ ∀ i : Int, 0 ≤ i → i < k → 0 ≤ own i := Classical.byContradiction (fun z => q (by rw [hw]; exact bI_f z))
          have hk : 0 ≤ own k := Classical.byContradiction (fun z => q2 (lcm_lt.mpr (by omega)))
          refine (bI_t ⟨hz.1, fun i i0 i1 => ?_⟩).symm
          by_cases z : i = k
          · rw [z]; exact hk
          · exact hz.2 i i0 (by omega)
      · intro j hj
        refine ok_grd (by (first | omega | (unfold r32; omega) | (unfold r64; omega) | (simp only [r32, r64] at *; omega))) ?_
        rw [show ((k : Int) + 1) = ((k + 1 : Nat) : Int) by omega]
        exact ih (k + 1) j (by omega) (by omega) hj
  refine L zFuel 0 j1 (by omega) (by unfold zFuel; omega) ?_
  by_cases z : j1 = 1
  · rw [bI_t ⟨z, fun i i0 i1 => by omega⟩]; exact z
  · rw [bI_f (fun w => z w.1)]; omega
theorem c_share (H : spC σ own N v) {h : Int} (hh : 0 ≤ h ∧ h ≤ 2) : Okk (f_SP_share σ h) fun s => sch σ s ∧ ∀ i : Int, 0 ≤ i → i < N → s 114 i = shr own N v h i := by
  unfold f_SP_share
  refine ok_call (P := fun j => j = if h = 1 then 1 else 0) (ok_ite (fun q => ok_some (by rw [if_neg q])) (fun q => ok_some (by rw [if_pos (Classical.not_not.mp q)]))) ?_
  intro j1 hj1
  have j01 : 0 ≤ j1 ∧ j1 ≤ 1 := by
    rw [hj1]
    by_cases z : h = 1
    · rw [if_pos z]; omega
    · rw [if_neg z]; omega
  have jw : j1 = 1 ↔ h = 1 := by
    rw [hj1]
    by_cases z : h = 1
    · rw [if_pos z]; simp [z]
    · rw [if_neg z]; simp [z]
  refine ok_call (c_share17 H j1 j01) ?_
  rintro r ⟨r1, r2⟩
  refine ok_call (P := fun s => sch σ s ∧ ∀ i : Int, 0 ≤ i → i < N → s 114 i = shr own N v h i) ?_ (fun s hs => ok_some hs)
  rw [r1, r2]
  have eqs : h ≠ 2 → ¬ (h = 1 ∧ (∀ i : Int, 0 ≤ i → i < N → 0 ≤ own i) ∧ 0 < sm own N) → Okk ((f_SP_equally σ).bind fun v20 => some v20) fun s => sch σ s ∧ ∀ i : Int, 0 ≤ i → i < N → s 114 i = shr own N v h i := fun h2 h1 => ok_call (c_equally H) (fun s hs => ok_some ⟨hs.1, fun i i0 i1 => by rw [shr_0 h2 h1]; exact hs.2 i i0 i1⟩)
  refine ok_ite (fun h2 => ok_ite (fun q => eqs h2 ?_) (fun q => ok_ite (fun q2 => eqs h2 ?_) (fun q2 => ?_))) (fun h2 => ?_)
  · exact fun w => bI_0.mp q ⟨jw.mpr w.1, w.2.1⟩
  · exact fun w => by have := lcm_le.mp q2; omega
  · have hz : j1 = 1 ∧ ∀ i : Int, 0 ≤ i → i < N → 0 ≤ own i := Classical.byContradiction (fun z => q (bI_f z))
    have hA : 0 < sm own N := Classical.byContradiction (fun z => q2 (lcm_le.mpr (by omega)))
    refine ok_call (c_byWeights H hz.2 hA) (fun s hs => ok_some ⟨hs.1, fun i i0 i1 => ?_⟩)
    rw [shr_1 ⟨jw.mp hz.1, hz.2, hA⟩]; exact hs.2 i i0 i1
  · refine ok_call (c_leaveRest H) (fun s hs => ok_some ⟨hs.1, fun i i0 i1 => ?_⟩)
    rw [shr_2 (Classical.not_not.mp h2)]; exact hs.2 i i0 i1
theorem c_inRange {g : Int → Int} (h0 : σ 112 0 = N) (N1 : N ≤ 50) (hg : ∀ i : Int, 0 ≤ i → i < N → σ 114 i = g i) : f_SP_inRange σ = some (bI (∀ i : Int, 0 ≤ i → i < N → -1000000 ≤ g i ∧ g i ≤ 1000000)) := by
  have L : ∀ (F k : Nat), k ≤ N → N - k < F → (∀ i : Int, 0 ≤ i → i < k → -1000000 ≤ g i ∧ g i ≤ 1000000) → Okk (f_SP_inRange_2 σ F k) fun r => r = bI (∀ i : Int, 0 ≤ i → i < N → -1000000 ≤ g i ∧ g i ≤ 1000000) := by
    intro F
    induction F with
    | zero => intro k k1 hF; omega
    | succ F ih =>
      intro k k1 hF hk
      rw [f_SP_inRange_2, h0]
      refine ok_ite (fun g => ok_grd (by omega) (ok_some (bI_t (fun i i0 i1 => hk i i0 (by omega))).symm)) (fun q => ok_grd (by omega) ?_)
      rw [hg k (by omega) (by omega)]
      refine ok_ite (fun q1 => ok_grd (by omega) (ok_some (bI_f (fun w => by have := w k (by omega) (by omega); have := lcm_lt.mp q1; omega)).symm)) (fun q1 => ok_grd (by omega) (ok_ite (fun q2 => ok_grd (by (first | omega | (unfold r32; omega) | (unfold r64; omega) | (simp only [r32, r64] at *; omega))) ?_) (fun q2 => ok_grd (by omega) (ok_some (bI_f (fun w => q2 (lcm_le.mpr (w k (by omega) (by omega)).2))).symm))))
      rw [show ((k : Int) + 1) = ((k + 1 : Nat) : Int) by omega]
      refine ih (k + 1) (by omega) (by omega) (fun i i0 i1 => ?_)
      by_cases z : i = k
      · rw [z]; exact ⟨Classical.byContradiction (fun w => q1 (lcm_lt.mpr (by omega))), lcm_le.mp q2⟩
      · exact hk i i0 (by omega)
  unfold f_SP_inRange
  exact ok_eq (L zFuel 0 (by omega) (by unfold zFuel; omega) (fun i i0 i1 => by omega))
end

/-! ===== the reference spreads ===== -/
section
variable {σ : Hp} {sp own : Int → Int} {N : Nat} {v : Int}
def gch2 (σ s : Hp) : Prop := ∀ q : Nat, q ≠ 168 → q ≠ 169 → s q = σ q
def spM (σ : Hp) (sp own : Int → Int) (N : Nat) (v : Int) : Prop := (∀ i : Int, 0 ≤ i → i < N → σ 167 i = sp i ∧ 0 ≤ sp i ∧ sp i < 50 ∧ σ 154 (sp i) = own i) ∧ (0 < N ∧ N ≤ 50) ∧ (0 ≤ v ∧ v ≤ 1000000) ∧ ∀ i : Int, 0 ≤ i → i < N → -1000000 ≤ own i ∧ own i ≤ 1000000
theorem spM_s {s : Hp} (H : spM σ sp own N v) (E : gch2 σ s) : spM s sp own N v := by
  obtain ⟨h0, h1⟩ := H
  exact ⟨by rw [E 167 (by omega) (by omega), E 154 (by omega) (by omega)]; exact h0, h1⟩
theorem m_equal (H : spM σ sp own N v) : Okk (f_M_equal σ N v) fun s => gch2 σ s ∧ ∀ i : Int, 0 ≤ i → i < N → s 168 i = v.tdiv N + (if i < v.tmod N then 1 else 0) := by
  obtain ⟨N0, N1⟩ := H.2.1
  obtain ⟨v0, v1⟩ := H.2.2.1
  have eb := eq_b v0 v1 N0
  have L : ∀ (F k : Nat) (s : Hp), k ≤ N → N - k < F → gch2 σ s → (∀ i : Int, 0 ≤ i → i < k → s 168 i = v.tdiv N + (if i < v.tmod N then 1 else 0)) → Okk (f_M_equal_3 N v F k s) fun r => gch2 σ r.2 ∧ ∀ i : Int, 0 ≤ i → i < N → r.2 168 i = v.tdiv N + (if i < v.tmod N then 1 else 0) := by
    intro F
    induction F with
    | zero => intro k s k1 hF; omega
    | succ F ih =>
      intro k s k1 hF E hi
      rw [f_M_equal_3]
      refine ok_ite (fun g => ok_some ⟨E, fun i i0 i1 => hi i i0 (by omega)⟩) (fun g => ok_grd ⟨by omega, by (first | omega | (unfold r32; omega) | (unfold r64; omega) | (simp only [r32, r64] at *; omega))⟩ (ok_grd (by omega) ?_))
      refine ok_call (P := fun j => j = if (k : Int) < v.tmod N then 1 else 0) ?_ ?_
      · refine ok_ite (fun q => ok_some (by rw [if_neg (by have := lcm_ge.mp q; omega)])) (fun q => ok_some (by rw [if_pos (Classical.byContradiction (fun w => q (lcm_ge.mpr (by omega))))]))
      · intro j hj
        have j01 : 0 ≤ j ∧ j ≤ 1 := by
          rw [hj]
          by_cases w : (k : Int) < v.tmod N
          · rw [if_pos w]; omega
          · rw [if_neg w]; omega
        refine ok_grd (by (first | omega | (unfold r32; omega) | (unfold r64; omega) | (simp only [r32, r64] at *; omega))) (ok_grd (by omega) (ok_grd (by (first | omega | (unfold r32; omega) | (unfold r64; omega) | (simp only [r32, r64] at *; omega))) ?_))
        rw [show ((k : Int) + 1) = ((k + 1 : Nat) : Int) by omega]
        refine ih (k + 1) _ (by omega) (by omega) (fun q q1 q2 => by rw [hset_ne q1]; exact E q q1 q2) (fun i i0 i1 => ?_)
        by_cases w : i = k
        · rw [w, hs_eq, hj]
        · rw [hs_nj w]; exact hi i i0 (by omega)
  unfold f_M_equal
  refine ok_call (L zFuel 0 σ (by omega) (by unfold zFuel; omega) (fun _ _ _ => rfl) (fun i i0 i1 => by omega)) (fun r hr => ok_some hr)
theorem m_remains (H : spM σ sp own N v) : Okk (f_M_remains σ N v) fun s => gch2 σ s ∧ ∀ i : Int, 0 ≤ i → i < N → s 168 i = if i = 0 then v - (sm own N - own 0) else own i := by
  obtain ⟨N0, N1⟩ := H.2.1
  obtain ⟨v0, v1⟩ := H.2.2.1
  have ob := H.2.2.2
  have sbk : ∀ k : Nat, k ≤ N → -(1000000 * (k : Int)) ≤ sm own k ∧ sm own k ≤ 1000000 * (k : Int) := fun k hk => sm_b (U := 1000000) k (fun i i0 i1 => by have := ob i i0 (by omega); omega)
  have o0 := ob 0 (by omega) (by omega)
  have L : ∀ (F k : Nat) (s : Hp), 1 ≤ k → k ≤ N → N - k < F → gch2 σ s → (∀ i : Int, 0 < i → i < k → s 168 i = own i) → Okk (f_M_remains_6 N F (sm own k - own 0) k s) fun r => r.1 = sm own N - own 0 ∧ gch2 σ r.2.2 ∧ ∀ i : Int, 0 < i → i < N → r.2.2 168 i = own i := by
    intro F
    induction F with
    | zero => intro k s k0 k1 hF; omega
    | succ F ih =>
      intro k s k0 k1 hF E hi
      have Hs := spM_s H E
      rw [f_M_remains_6]
      refine ok_ite (fun g => ok_some ⟨by rw [show N = k by omega], E, fun i i0 i1 => hi i i0 (by omega)⟩) (fun g => ?_)
      have hk := Hs.1 k (by omega) (by omega)
      have okk := ob k (by omega) (by omega)
      have sb := sbk k k1
      rw [hk.1, hk.2.2.2, hs_eq]
      refine ok_grd (by omega) (ok_grd (by omega) (ok_grd (by omega) (ok_grd (by omega) (ok_grd (by (first | omega | (unfold r32; omega) | (unfold r64; omega) | (simp only [r32, r64] at *; omega))) (ok_grd (by (first | omega | (unfold r32; omega) | (unfold r64; omega) | (simp only [r32, r64] at *; omega))) ?_)))))
      rw [show sm own k - own 0 + own k = sm own (k + 1) - own 0 by rw [sm_s]; omega, show ((k : Int) + 1) = ((k + 1 : Nat) : Int) by omega]
      refine ih (k + 1) _ (by omega) (by omega) (by omega) (fun q q1 q2 => by rw [hset_ne q1]; exact E q q1 q2) (fun i i0 i1 => ?_)
      by_cases w : i = k
      · rw [w, hs_eq]
      · rw [hs_nj w]; exact hi i i0 (by omega)
  unfold f_M_remains
  have e1 : sm own 1 - own 0 = 0 := by show 0 + own 0 - own 0 = 0; omega
  have L1 := L zFuel 1 σ (by omega) (by omega) (by unfold zFuel; omega) (fun _ _ _ => rfl) (fun i i0 i1 => by omega)
  rw [e1] at L1
  refine ok_call L1 ?_
  rintro r ⟨r1, r2, r3⟩
  have sb := sbk N (Nat.le_refl _)
  rw [r1]
  refine ok_grd (by (first | omega | (unfold r32; omega) | (unfold r64; omega) | (simp only [r32, r64] at *; omega))) (ok_grd (by omega) (ok_some ⟨fun q q1 q2 => by rw [hset_ne q1]; exact r2 q q1 q2, fun i i0 i1 => ?_⟩))
  by_cases w : i = 0
  · rw [w, hs_eq, if_pos rfl]
  · rw [hs_nj w, if_neg w]; exact r3 i (by omega) i1
theorem m_greatest (N0 : 0 < N) (N1 : N ≤ 50) : Okk (f_M_weights_176 N σ zFuel 0 1) fun r => r.1 = gI (σ 169) N := by
  have L : ∀ (F k : Nat), 1 ≤ k → k ≤ N → N - k < F → Okk (f_M_weights_176 N σ F (gI (σ 169) k) k) fun r => r.1 = gI (σ 169) N := by
    intro F
    induction F with
    | zero => intro k k0 k1 hF; omega
    | succ F ih =>
      intro k k0 k1 hF
      have gb := gI_b (σ 169) k
      have gb2 := gb.2 (by omega)
      rw [f_M_weights_176]
      refine ok_ite (fun g => ok_some (by rw [show N = k by omega])) (fun g => ok_grd (by omega) (ok_grd (by omega) ?_))
      refine ok_call (P := fun j => j = gI (σ 169) (k + 1)) ?_ ?_
      · rw [gI_s (by omega)]
        refine ok_ite (fun q => ok_some (by rw [if_neg (by have := lcm_le.mp q; omega)])) (fun q => ok_some (by rw [if_pos (Classical.byContradiction (fun w => q (lcm_le.mpr (by omega))))]))
      · rintro j rfl
        refine ok_grd (by (first | omega | (unfold r32; omega) | (unfold r64; omega) | (simp only [r32, r64] at *; omega))) ?_
        rw [show ((k : Int) + 1) = ((k + 1 : Nat) : Int) by omega]
        exact ih (k + 1) (by omega) (by omega) (by omega)
  have e1 : gI (σ 169) 1 = 0 := by show (if 0 < 0 ∧ _ then _ else _) = _; rw [if_neg (by omega)]; rfl
  have := L zFuel 1 (by omega) (by omega) (by unfold zFuel; omega)
  rw [e1] at this
  exact this
theorem m_w89 (H : spM σ sp own N v) (h0 : ∀ i : Int, 0 ≤ i → i < N → 0 ≤ own i) {A : Int} (A0 : 0 < A) (A1 : A ≤ 50000000) {j15 : Int × Int × Int} (hj : j15.1 = A) : ∀ (F k : Nat) (s : Hp), k ≤ N → N - k < F → gch2 σ s → (∀ i : Int, 0 ≤ i → i < k → s 168 i = (v * own i).tdiv A ∧ s 169 i = (v * own i).tmod A) → Okk (f_M_weights_89 N v j15 F (v - sm (fun i => (v * own i).tdiv A) k) k s) fun r => r.1 = v - sm (fun i => (v * own i).tdiv A) N ∧ gch2 σ r.2.2 ∧ ∀ i : Int, 0 ≤ i → i < N → r.2.2 168 i = (v * own i).tdiv A ∧ r.2.2 169 i = (v * own i).tmod A := by
  obtain ⟨N0, N1⟩ := H.2.1
  obtain ⟨v0, v1⟩ := H.2.2.1
  have ob := H.2.2.2
  intro F
  induction F with
  | zero => intro k s k1 hF; omega
  | succ F ih =>
    intro k s k1 hF E hi
    have Hs := spM_s H E
    rw [f_M_weights_89, hj]
    refine ok_ite (fun g => ok_some ⟨by rw [show N = k by omega], E, fun i i0 i1 => hi i i0 (by omega)⟩) (fun g => ?_)
    have hk := Hs.1 k (by omega) (by omega)
    have okk := ob k (by omega) (by omega)
    have qb := q_b v0 v1 (h0 k (by omega) (by omega)) okk.2 A0
    have sb := sm_b (f := fun i => (v * own i).tdiv A) (U := 1000000000000) k (fun i i0 i1 => by
      have := q_b v0 v1 (h0 i i0 (by omega)) (ob i i0 (by omega)).2 A0
      omega)
    have e1 : ∀ w : Int, (hset s 168 k w) 167 k = sp k := fun w => by rw [hset_ne (by omega)]; exact hk.1
    have e2 : ∀ w : Int, (hset s 168 k w) 154 (sp k) = own k := fun w => by rw [hset_ne (by omega)]; exact hk.2.2.2
    have e3 : ∀ w u : Int, (hset (hset s 168 k w) 169 k u) 168 k = w := fun w u => by rw [hset_ne (by omega), hs_eq]
    rw [hk.1, hk.2.2.2, e1, e2, e3]
    refine ok_grd (by omega) (ok_grd (by omega) (ok_grd (by (first | omega | (unfold r32; omega) | (unfold r64; omega) | (simp only [r32, r64] at *; omega))) (ok_grd ⟨by omega, by (first | omega | (unfold r32; omega) | (unfold r64; omega) | (simp only [r32, r64] at *; omega))⟩ (ok_grd (by omega) (ok_grd (by omega) (ok_grd (by omega) (ok_grd (by (first | omega | (unfold r32; omega) | (unfold r64; omega) | (simp only [r32, r64] at *; omega))) (ok_grd A0 (ok_grd (by omega) (ok_grd (by omega) (ok_grd (by (first | omega | (unfold r32; omega) | (unfold r64; omega) | (simp only [r32, r64] at *; omega))) (ok_grd (by (first | omega | (unfold r32; omega) | (unfold r64; omega) | (simp only [r32, r64] at *; omega))) ?_))))))))))))
    have es : v - sm (fun i => (v * own i).tdiv A) k - (v * own k).tdiv A = v - sm (fun i => (v * own i).tdiv A) (k + 1) := by rw [sm_s]; omega
    rw [es, show ((k : Int) + 1) = ((k + 1 : Nat) : Int) by omega]
    refine ih (k + 1) _ (by omega) (by omega) (fun q q1 q2 => by rw [hset_ne q2, hset_ne q1]; exact E q q1 q2) (fun i i0 i1 => ?_)
    by_cases w : i = k
    · rw [w, e3, hs_eq]; exact ⟨rfl, rfl⟩
    · rw [hset_ne (by omega), hs_nj w, hs_nj w, hset_ne (by omega)]; exact hi i i0 (by omega)
theorem m_w163 (N0 : 0 < N) (N1 : N ≤ 50) {G R : Int → Int} (hG : ∀ i : Int, 0 ≤ i → i < N → 0 ≤ G i ∧ G i ≤ 1000000000000) {K : Nat} (hK : K ≤ N) : ∀ (F k : Nat) (y : Int) (s : Hp), k ≤ K → K - k < F → gch2 σ s → (∀ i : Int, 0 ≤ i → i < N → s 168 i = (wtG N G R k).1 i ∧ s 169 i = (wtG N G R k).2 i) → Okk (f_M_weights_163 N F ((K : Int) - k) y s) fun r => gch2 σ r.2.2 ∧ ∀ i : Int, 0 ≤ i → i < N → r.2.2 168 i = (wtG N G R K).1 i := by
  intro F
  induction F with
  | zero => intro k y s k1 hF; omega
  | succ F ih =>
    intro k y s k1 hF E hi
    rw [f_M_weights_163]
    refine ok_ite (fun g => ok_some ⟨E, fun i i0 i1 => by rw [show K = k by have := lcm_le.mp g; omega]; exact (hi i i0 i1).1⟩) (fun g => ?_)
    have g2 : (k : Int) < K := Classical.byContradiction (fun w => g (lcm_le.mpr (by omega)))
    refine ok_call (m_greatest N0 N1) ?_
    intro j52 hj
    have eg : gI (s 169) N = gI (wtG N G R k).2 N := gI_c N (fun i i0 i1 => (hi i i0 i1).2)
    rw [hj, eg]
    have gb := gI_b (wtG N G R k).2 N
    have gb2 := gb.2 N0
    have wb := wtG_b (R := R) N0 hG k _ gb.1 gb2
    have hg := hi _ gb.1 gb2
    rw [hg.1]
    refine ok_grd (by omega) (ok_grd (by (first | omega | (unfold r32; omega) | (unfold r64; omega) | (simp only [r32, r64] at *; omega))) (ok_grd (by omega) (ok_grd (by omega) (ok_grd (by (first | omega | (unfold r32; omega) | (unfold r64; omega) | (simp only [r32, r64] at *; omega))) ?_))))
    rw [show (K : Int) - k - 1 = (K : Int) - ((k + 1 : Nat) : Int) by omega]
    refine ih (k + 1) _ _ (by omega) (by omega) (fun q q1 q2 => by rw [hset_ne q2, hset_ne q1]; exact E q q1 q2) (fun i i0 i1 => ?_)
    have hi' := hi i i0 i1
    show (hset (hset s 168 (gI (wtG N G R k).2 N) ((wtG N G R k).1 (gI (wtG N G R k).2 N) + 1)) 169 (gI (wtG N G R k).2 N) (-1)) 168 i = upF (wtG N G R k).1 (gI (wtG N G R k).2 N) ((wtG N G R k).1 (gI (wtG N G R k).2 N) + 1) i ∧ _ = upF (wtG N G R k).2 (gI (wtG N G R k).2 N) (-1) i
    rw [hset_ne (show (168 : Nat) ≠ 169 by omega), hs_if, hs_if, hset_ne (show (169 : Nat) ≠ 168 by omega), hi'.1, hi'.2]
    exact ⟨rfl, rfl⟩
theorem m_weights9 (H : spM σ sp own N v) : Okk (f_M_weights_9 σ N zFuel 0 0 0) fun r => r.1 = sm own N ∧ r.2.1 = bI (¬ ∀ i : Int, 0 ≤ i → i < N → 0 ≤ own i) := by
  obtain ⟨N0, N1⟩ := H.2.1
  have ob := H.2.2.2
  have L : ∀ (F k : Nat) (w : Int), k ≤ N → N - k < F → w = bI (¬ ∀ i : Int, 0 ≤ i → i < k → 0 ≤ own i) → Okk (f_M_weights_9 σ N F (sm own k) w k) fun r => r.1 = sm own N ∧ r.2.1 = bI (¬ ∀ i : Int, 0 ≤ i → i < N → 0 ≤ own i) := by
    intro F
    induction F with
    | zero => intro k w k1 hF; omega
    | succ F ih =>
      intro k w k1 hF hw
      have sb := sm_b (U := 1000000) k (fun i i0 i1 => by have := ob i i0 (by omega); omega)
      rw [f_M_weights_9]
      refine ok_ite (fun g => ok_some ⟨by rw [show N = k by omega], by rw [show N = k by omega]; exact hw⟩) (fun g => ?_)
      have okk := ob k (by omega) (by omega)
      have hk := H.1 k (by omega) (by omega)
      rw [hk.1, hk.2.2.2]
      refine ok_grd (by omega) (ok_grd (by omega) (ok_grd (by (first | omega | (unfold r32; omega) | (unfold r64; omega) | (simp only [r32, r64] at *; omega))) (ok_grd (by omega) (ok_grd (by omega) ?_))))
      refine ok_call (P := fun j => j = bI (¬ 0 ≤ own k)) (ok_ite (fun q => ok_some (bI_f (fun w => w q)).symm) (fun q => ok_some (bI_t q).symm)) ?_
      rintro j rfl
      refine ok_grd (by (first | omega | (unfold r32; omega) | (unfold r64; omega) | (simp only [r32, r64] at *; omega))) ?_
      rw [show sm own k + own k = sm own (k + 1) from rfl, show ((k : Int) + 1) = ((k + 1 : Nat) : Int) by omega]
      refine ih (k + 1) _ (by omega) (by omega) ?_
      rw [hw]
      by_cases z1 : ∀ i : Int, 0 ≤ i → i < k → 0 ≤ own i
      · by_cases z2 : 0 ≤ own k
        · have e3 : bI (¬ ∀ i : Int, 0 ≤ i → i < ((k + 1 : Nat) : Int) → 0 ≤ own i) = 0 := bI_f (fun w => w (fun i i0 i1 => by
            by_cases z : i = k
            · rw [z]; exact z2
            · exact z1 i i0 (by omega)))
          rw [bI_f (fun w => w z1), bI_f (fun w => w z2), e3]
          exact ior_00.1
        · rw [bI_f (fun w => w z1), bI_t z2, bI_t (fun w => z2 (w k (by omega) (by omega)))]
          exact ior_00.2.1
      · rw [bI_t z1, bI_t (P := ¬ ∀ i : Int, 0 ≤ i → i < ((k + 1 : Nat) : Int) → 0 ≤ own i) (fun w => z1 (fun i i0 i1 => w i i0 (by omega)))]
        rcases bI_r (¬ 0 ≤ own k) with ⟨r0, r1⟩
        have : bI (¬ 0 ≤ own k) = 0 ∨ bI (¬ 0 ≤ own k) = 1 := by omega
        rcases this with r | r <;> rw [r]
        · exact ior_00.2.2.1
        · exact ior_00.2.2.2
  refine L zFuel 0 0 (by omega) (by unfold zFuel; omega) ?_
  exact (bI_f (fun w => w (fun i i0 i1 => by omega))).symm
/-- what each is given, in the reference -/
theorem m_give (H : spM σ sp own N v) {h : Int} (hh : 0 ≤ h ∧ h ≤ 2) : Okk (if h ≠ 0 then if h ≠ 1 then (f_M_remains σ N v).bind fun v33 => some v33 else (f_M_weights σ N v).bind fun v35 => some v35 else (f_M_equal σ N v).bind fun v38 => some v38 : Option (Hp)) fun s => gch2 σ s ∧ ∀ i : Int, 0 ≤ i → i < N → s 168 i = shr own N v h i := by
  obtain ⟨N0, N1⟩ := H.2.1
  obtain ⟨v0, v1⟩ := H.2.2.1
  have ob := H.2.2.2
  have eqs : h ≠ 2 → ¬ (h = 1 ∧ (∀ i : Int, 0 ≤ i → i < N → 0 ≤ own i) ∧ 0 < sm own N) → Okk ((f_M_equal σ N v).bind fun v20 => some v20) fun s => gch2 σ s ∧ ∀ i : Int, 0 ≤ i → i < N → s 168 i = shr own N v h i := fun h2 h1 => ok_call (m_equal H) (fun s hs => ok_some ⟨hs.1, fun i i0 i1 => by rw [shr_0 h2 h1]; exact hs.2 i i0 i1⟩)
  refine ok_ite (fun q0 => ok_ite (fun q1 => ?_) (fun q1 => ?_)) (fun q0 => eqs (by omega) (fun w => by omega))
  · refine ok_call (m_remains H) (fun s hs => ok_some ⟨hs.1, fun i i0 i1 => ?_⟩)
    rw [shr_2 (by omega)]; exact hs.2 i i0 i1
  · have h1 : h = 1 := Classical.not_not.mp q1
    refine ok_call (P := fun s => gch2 σ s ∧ ∀ i : Int, 0 ≤ i → i < N → s 168 i = shr own N v h i) ?_ (fun s hs => ok_some hs)
    unfold f_M_weights
    refine ok_call (m_weights9 H) ?_
    rintro j15 ⟨j1, j2⟩
    rw [j2]
    refine ok_ite (fun q => eqs (by omega) (fun w => q (bI_f (fun z => z w.2.1)))) (fun q => ?_)
    have hz : ∀ i : Int, 0 ≤ i → i < N → 0 ≤ own i := Classical.not_not.mp (bI_0.mp (Classical.not_not.mp q))
    refine ok_ite (fun q2 => ?_) (fun q2 => eqs (by omega) (fun w => q2 (by rw [j1]; exact lcm_gt.mpr w.2.2)))
    have A0 : 0 < sm own N := by rw [j1] at q2; exact lcm_gt.mp q2
    have sb := sm_b (U := 1000000) N (fun i i0 i1 => by have := ob i i0 i1; omega)
    have lb := lft_b rfl A0 v0 hz
    have L := m_w89 H hz A0 (by omega) j1 zFuel 0 σ (by omega) (by unfold zFuel; omega) (fun _ _ _ => rfl) (fun i i0 i1 => by omega)
    rw [show v - sm (fun i => (v * own i).tdiv (sm own N)) 0 = v by show v - 0 = v; omega] at L
    refine ok_call L ?_
    rintro r ⟨r1, r2, r3⟩
    have L2 := m_w163 (σ := r.2.2) (R := fun i => (v * own i).tmod (sm own N)) N0 N1 (G := fun i => (v * own i).tdiv (sm own N)) (fun i i0 i1 => by
      have := q_b v0 v1 (hz i i0 i1) (ob i i0 i1).2 A0
      omega) (K := (v - sm (fun i => (v * own i).tdiv (sm own N)) N).toNat) (by omega) zFuel 0 r.2.1 r.2.2 (by omega) (by unfold zFuel; omega) (fun _ _ _ => rfl) (fun i i0 i1 => r3 i i0 i1)
    rw [show (((v - sm (fun i => (v * own i).tdiv (sm own N)) N).toNat : Nat) : Int) - ((0 : Nat) : Int) = r.1 by rw [r1]; omega] at L2
    refine ok_call L2 ?_
    rintro u ⟨u1, u2⟩
    refine ok_some ⟨fun q q1 q2 => (u1 q q1 q2).trans (r2 q q1 q2), fun i i0 i1 => ?_⟩
    rw [shr_1 ⟨h1, hz, A0⟩]; exact u2 i i0 i1
end

/-! ===== the class's plain values: what was gathered ===== -/
noncomputable def nC (c : Int → Int) : Nat → Int
  | 0 => 0
  | k + 1 => if c k ≠ 0 then nC c k + 1 else nC c k
theorem nC_b (c : Int → Int) : ∀ k : Nat, 0 ≤ nC c k ∧ nC c k ≤ k
  | 0 => by simp [nC]
  | k + 1 => by
    have := nC_b c k
    unfold nC
    by_cases h : c k ≠ 0
    · rw [if_pos h]; omega
    · rw [if_neg h]; omega
theorem nC_y {c : Int → Int} {k : Nat} (h : c k ≠ 0) : nC c (k + 1) = nC c k + 1 := by unfold nC; rw [if_pos h]; cases k <;> rfl
theorem nC_n {c : Int → Int} {k : Nat} (h : c k = 0) : nC c (k + 1) = nC c k := by
  show (if c k ≠ 0 then nC c k + 1 else nC c k) = nC c k
  rw [if_neg (fun g => g h)]
theorem nC_le (c : Int → Int) (k : Nat) : ∀ j : Nat, nC c k ≤ nC c (k + j)
  | 0 => Int.le_refl _
  | j + 1 => by
    have := nC_le c k j
    by_cases h : c ((k + j : Nat) : Int) = 0
    · rw [show k + (j + 1) = k + j + 1 by omega, nC_n h]; exact this
    · rw [show k + (j + 1) = k + j + 1 by omega, nC_y h]; omega
theorem nC_0 {c : Int → Int} {k : Nat} (h : nC c k = 0) : ∀ f : Nat, f < k → c f = 0 := by
  intro f hf
  by_cases e : c f = 0
  · exact e
  · have h1 := nC_le c (f + 1) (k - (f + 1))
    rw [show f + 1 + (k - (f + 1)) = k by omega, nC_y e, h] at h1
    have := (nC_b c f).1
    omega
/-- what was gathered of the first K facts -/
def gth (σ : Hp) (c pl : Int → Int) (K : Nat) : Prop := σ 116 9 = nC c K ∧ ∀ f : Nat, f < K → c f ≠ 0 → σ 121 (nC c f) = f ∧ σ 122 (nC c f) = c f ∧ σ 123 (nC c f) = pl f
def gch (σ σ' : Hp) : Prop := (∀ q : Nat, q ≠ 116 → q ≠ 121 → q ≠ 122 → q ≠ 123 → σ' q = σ q) ∧ ∀ j : Int, j ≠ 9 → σ' 116 j = σ 116 j
theorem gch_t {σ σ' σ'' : Hp} (h1 : gch σ σ') (h2 : gch σ' σ'') : gch σ σ'' := ⟨fun q a b c d => (h2.1 q a b c d).trans (h1.1 q a b c d), fun j hj => (h2.2 j hj).trans (h1.2 j hj)⟩
theorem ICR_g {σ σ' : Hp} {a : Ab} (W : WFA a) (h : gch σ σ') (H : ICR σ a) : ICR σ' a := ICR_f W (fun q hq => h.1 q (by omega) (by omega) (by omega) (by omega)) H
theorem r_FR {σ : Hp} {a : Ab} (W : WFA a) (H : ICF σ a) {f : Int} (f0 : 0 ≤ f) (f1 : f < a.facts) : f_FR_measureAt σ f = some (a.fm f) ∧ f_FR_cellAt σ f = some (clq (a.ft f) (a.fa f) (a.fb f)) ∧ f_FR_numberAt σ f = some (a.fv f) := by
  have h0 : σ 101 0 = a.facts ∧ ∀ f : Int, 0 ≤ f → f < a.facts → σ 102 f = 144 * a.ft f + 12 * a.fa f + a.fb f ∧ σ 103 f = a.fm f ∧ σ 104 f = a.fv f := H 0
  have hf := fct W f0 f1
  have h := h0.2 f f0 f1
  have c : 0 ≤ f ∧ f < σ 101 0 ∧ f < 50 := ⟨f0, by rw [h0.1]; exact f1, hf.2.2.2.2.2.2.2.2⟩
  rw [e_FR_measureAt, e_FR_cellAt, e_FR_numberAt, if_pos c, if_pos c, if_pos c, h.1, h.2.1, h.2.2]
  exact ⟨rfl, rfl, rfl⟩
theorem r_place {σ : Hp} {a : Ab} (W : WFA a) (H : ICT σ a) {t : Int} (ht : thr a 0 t) (hp : isP a 0 t) : f_TO_placeOf σ t = some (a.place t) := by
  have h1 : ∀ m : Int, 0 ≤ m → m < 12 → σ 94 m = @ite _ (thr a 0 m ∧ isP a 0 m) (Classical.propDecidable _) (a.place m) (-1) := H 1
  have t12 := thr12 W iD0 ht
  rw [e_TO_placeOf, if_pos t12, h1 t t12.1 t12.2, if_pos ⟨ht, hp⟩]
theorem c_gather_7 {a : Ab} (W : WFA a) {t x y m : Int} (h : cin a t x y) (hl : lead a t x y = -1) {σ0 : Hp} : ∀ (F k : Nat) (σ : Hp), (k : Int) ≤ a.facts → a.facts - k < F → ICR σ a → gch σ0 σ → gth σ (cnf a m t x y) (fun f => a.place (a.ft f)) k → Okk (f_R_gather_7 (clq t x y) m F k σ) fun r => gch σ0 r.2 ∧ gth r.2 (cnf a m t x y) (fun f => a.place (a.ft f)) a.facts.toNat := by
  intro F
  induction F with
  | zero => intro k σ hk hF; omega
  | succ F ih =>
    intro k σ hk hF H hg G
    have hF0 : σ 101 0 = a.facts ∧ _ := H.2.2.2.2.2.2 0
    rw [f_R_gather_7, hF0.1]
    refine ok_ite (fun g => ok_some ⟨hg, by rw [show a.facts.toNat = k by omega]; exact G⟩) (fun g => ?_)
    have hf := fct W (f := k) (by omega) (by omega)
    have rf := r_FR W H.2.2.2.2.2.2 (f := k) (by omega) (by omega)
    have hci : cin a (a.ft k) (a.fa k) (a.fb k) := ⟨hf.1.1, hf.2.1.1, hf.2.2.1.1⟩
    refine ok_eqb rf.1 (ok_call (P := fun r => r = cnf a m t x y k) ?_ ?_)
    · unfold cnf
      refine ok_ite (fun g2 => ok_some (if_neg g2).symm) (fun g2 => ?_)
      refine ok_eqb rf.2.1 (ok_eqb (r_S_weight W H hci ⟨hf.1.2, hf.2.1.2, hf.2.2.1.2⟩ h hl) (ok_some (if_pos (Classical.not_not.mp g2)).symm))
    · rintro r rfl
      have nb := nC_b (cnf a m t x y) k
      have k50 := hf.2.2.2.2.2.2.2.2
      refine ok_call (P := fun s => gch σ0 s ∧ gth s (cnf a m t x y) (fun f => a.place (a.ft f)) (k + 1)) ?_ ?_
      · refine ok_ite (fun g2 => ok_some ⟨hg, by rw [nC_n g2]; exact G.1, fun f hf1 hf2 => ?_⟩) (fun g2 => ?_)
        · by_cases e : f = k
          · rw [e] at hf2; exact absurd g2 hf2
          · exact G.2 f (by omega) hf2
        · have e9 : σ 116 9 = nC (cnf a m t x y) k := G.1
          have e91 : (hset σ 121 (σ 116 9) k) 116 9 = nC (cnf a m t x y) k := by rw [hset_ne (by omega)]; exact e9
          rw [e91, e9]
          generalize hs2 : hset (hset σ 121 (nC (cnf a m t x y) k) k) 122 (nC (cnf a m t x y) k) (cnf a m t x y k) = σ2
          have H2 : ICR σ2 a := by
            subst hs2
            exact ICR_f W (fun q hq => by rw [hset_ne (by omega), hset_ne (by omega)]) H
          have e92 : σ2 116 9 = nC (cnf a m t x y) k := by subst hs2; rw [hset_ne (by omega), hset_ne (by omega)]; exact e9
          refine ok_grd (by omega) (ok_grd (by omega) ?_)
          refine ok_eqb (r_FR W H2.2.2.2.2.2.2 (f := k) (by omega) (by omega)).2.1 (ok_eqb (r_mOf σ2 W hci).1 (ok_eqb (r_place W H2.2.2.2.1 hf.1.1 hf.1.2) ?_))
          rw [e92]
          generalize hs3 : hset σ2 123 (nC (cnf a m t x y) k) (a.place (a.ft k)) = σ3
          have e93 : σ3 116 9 = nC (cnf a m t x y) k := by subst hs3; rw [hset_ne (by omega)]; exact e92
          rw [e93]
          refine ok_grd (by omega) (ok_grd (by (first | omega | (unfold r32; omega) | (unfold r64; omega) | (simp only [r32, r64] at *; omega))) (ok_some ?_))
          have Q : ∀ q : Nat, q ≠ 116 → q ≠ 121 → q ≠ 122 → q ≠ 123 → (hset σ3 116 9 (nC (cnf a m t x y) k + 1)) q = σ q := by
            intro q q1 q2 q3 q4
            subst hs3; subst hs2
            rw [hset_ne q1, hset_ne q4, hset_ne q3, hset_ne q2]
          have Q2 : ∀ j : Int, j ≠ 9 → (hset σ3 116 9 (nC (cnf a m t x y) k + 1)) 116 j = σ 116 j := by
            intro j hj
            subst hs3; subst hs2
            rw [hs_nj hj, hset_ne (by omega), hset_ne (by omega), hset_ne (by omega)]
          refine ⟨gch_t hg ⟨Q, Q2⟩, by rw [nC_y g2]; exact hs_eq, fun f hf1 hf2 => ?_⟩
          have E1 : (hset σ3 116 9 (nC (cnf a m t x y) k + 1)) 121 = (hset σ 121 (nC (cnf a m t x y) k) k) 121 := by
            subst hs3; subst hs2
            rw [hset_ne (by omega), hset_ne (by omega), hset_ne (by omega)]
          have E2 : (hset σ3 116 9 (nC (cnf a m t x y) k + 1)) 122 = (hset (hset σ 121 (nC (cnf a m t x y) k) k) 122 (nC (cnf a m t x y) k) (cnf a m t x y k)) 122 := by
            subst hs3; subst hs2
            rw [hset_ne (by omega), hset_ne (by omega)]
          have E3 : (hset σ3 116 9 (nC (cnf a m t x y) k + 1)) 123 = (hset σ2 123 (nC (cnf a m t x y) k) (a.place (a.ft k))) 123 := by
            subst hs3
            rw [hset_ne (by omega)]
          rw [E1, E2, E3]
          by_cases e : f = k
          · subst e; exact ⟨hs_eq, hs_eq, hs_eq⟩
          · have hlt : nC (cnf a m t x y) f ≠ nC (cnf a m t x y) k := by
              have h1 := nC_le (cnf a m t x y) (f + 1) (k - (f + 1))
              rw [show f + 1 + (k - (f + 1)) = k by omega, nC_y hf2] at h1
              omega
            have := G.2 f (by omega) hf2
            rw [hs_nj hlt, hs_nj hlt, hs_nj hlt, hs_nj hlt]
            refine ⟨this.1, this.2.1, ?_⟩
            subst hs2
            rw [hset_ne (by omega), hset_ne (by omega)]; exact this.2.2
      · rintro s ⟨s1, s2⟩
        refine ok_grd (by (first | omega | (unfold r32; omega) | (unfold r64; omega) | (simp only [r32, r64] at *; omega))) ?_
        have := ih (k + 1) s (by omega) (by omega) (ICR_f W (fun q hq => ?_) H) s1 s2
        · rw [show ((k + 1 : Nat) : Int) = (k : Int) + 1 by omega] at this; exact this
        · rw [s1.1 q (by omega) (by omega) (by omega) (by omega), hg.1 q (by omega) (by omega) (by omega) (by omega)]
theorem c_gather {a : Ab} (W : WFA a) {t x y m : Int} (h : cin a t x y) (hl : lead a t x y = -1) {σ : Hp} (H : ICR σ a) : Okk (f_R_gather σ (clq t x y) m) fun s => gch σ s ∧ gth s (cnf a m t x y) (fun f => a.place (a.ft f)) a.facts.toNat := by
  have h12 : 0 ≤ a.facts ∧ a.facts ≤ 50 ∧ _ := W 12
  have g0 : gch σ (hset σ 116 9 0) := ⟨fun q q1 _ _ _ => hset_ne q1, fun j hj => hs_nj hj⟩
  unfold f_R_gather
  refine ok_call (c_gather_7 W h hl (σ0 := σ) zFuel 0 (hset σ 116 9 0) (by omega) (by unfold zFuel; omega) (ICR_g W g0 H) g0 ⟨hs_eq, fun f hf => absurd hf (by omega)⟩) ?_
  rintro r ⟨r1, r2⟩
  exact ok_some ⟨r1, r2⟩
section
variable {σ : Hp} {a : Ab} {m t x y : Int}
theorem gth_r (W : WFA a) (H : ICR σ a) (h : cin a t x y) (G : gth σ (cnf a m t x y) (fun f => a.place (a.ft f)) a.facts.toNat) {k : Nat} (hk : (k : Int) < a.facts) (hc : cnf a m t x y k ≠ 0) : nC (cnf a m t x y) k < nC (cnf a m t x y) a.facts.toNat ∧ 0 ≤ nC (cnf a m t x y) k ∧ nC (cnf a m t x y) k < 50 ∧ σ 121 (nC (cnf a m t x y) k) = k ∧ σ 122 (nC (cnf a m t x y) k) = cnf a m t x y k ∧ σ 123 (nC (cnf a m t x y) k) = a.place (a.ft k) ∧ f_FR_numberAt σ k = some (a.fv k) ∧ (-1 ≤ cnf a m t x y k ∧ cnf a m t x y k ≤ 1) ∧ (-1000000 ≤ a.fv k ∧ a.fv k ≤ 1000000) := by
  have hf := fct W (f := k) (by omega) hk
  have nb := nC_b (cnf a m t x y) k
  have h1 := nC_le (cnf a m t x y) (k + 1) (a.facts.toNat - (k + 1))
  rw [show k + 1 + (a.facts.toNat - (k + 1)) = a.facts.toNat by omega, nC_y hc] at h1
  have g := G.2 k (by omega) hc
  have k50 := hf.2.2.2.2.2.2.2.2
  exact ⟨by omega, nb.1, by omega, g.1, g.2.1, g.2.2, (r_FR W H.2.2.2.2.2.2 (by omega) hk).2.2, cnf_r W h.1.1 h.2.1.1 h.2.2.1 (by omega) hk, hf.2.2.2.2.2.2.1, hf.2.2.2.2.2.2.2.1⟩
theorem c_sum_5 (W : WFA a) (H : ICR σ a) (h : cin a t x y) (G : gth σ (cnf a m t x y) (fun f => a.place (a.ft f)) a.facts.toNat) (L : Int) : ∀ (j k F : Nat), (k : Int) + j = a.facts → j < F → Okk (f_R_sum_5 σ L F (sumF (fun f => if L = -1 ∨ a.place (a.ft f) = L then cnf a m t x y f else 0) a.fv k) (nC (cnf a m t x y) k)) fun r => r.1 = sumF (fun f => if L = -1 ∨ a.place (a.ft f) = L then cnf a m t x y f else 0) a.fv a.facts.toNat := by
  have h12 : 0 ≤ a.facts ∧ a.facts ≤ 50 ∧ _ := W 12
  intro j
  induction j with
  | zero =>
    intro k F hk hF
    obtain ⟨F, rfl⟩ : ∃ G, F = G + 1 := ⟨F - 1, by omega⟩
    have e : a.facts.toNat = k := by omega
    rw [f_R_sum_5, G.1, e, if_pos (Int.le_refl _)]
    exact ok_some rfl
  | succ j ih =>
    intro k F hk hF
    have hall : ∀ f : Int, 0 ≤ f → f < k → -1 ≤ (if L = -1 ∨ a.place (a.ft f) = L then cnf a m t x y f else 0) ∧ (if L = -1 ∨ a.place (a.ft f) = L then cnf a m t x y f else 0) ≤ 1 ∧ -1000000 ≤ a.fv f ∧ a.fv f ≤ 1000000 := fun f g0 g1 => by
      have h1 := cnf_r W (m := m) h.1.1 h.2.1.1 h.2.2.1 (f := f) g0 (by omega)
      have h2 := (fct W (f := f) g0 (by omega)).2.2.2.2.2.2
      by_cases e : L = -1 ∨ a.place (a.ft f) = L
      · rw [if_pos e]; exact ⟨h1.1, h1.2, h2.1, h2.2.1⟩
      · rw [if_neg e]; exact ⟨by omega, by omega, h2.1, h2.2.1⟩
    have hsb := sumF_b k hall
    have eS : sumF (fun f => if L = -1 ∨ a.place (a.ft f) = L then cnf a m t x y f else 0) a.fv (k + 1) = sumF (fun f => if L = -1 ∨ a.place (a.ft f) = L then cnf a m t x y f else 0) a.fv k + (if L = -1 ∨ a.place (a.ft k) = L then cnf a m t x y k else 0) * a.fv k := rfl
    by_cases hc : cnf a m t x y k = 0
    · have := ih (k + 1) F (by omega) (by omega)
      rw [nC_n hc, eS, hc, ite_self, Int.zero_mul, Int.add_zero] at this
      exact this
    · obtain ⟨F, rfl⟩ : ∃ G, F = G + 1 := ⟨F - 1, by omega⟩
      obtain ⟨g1, g2, g3, g4, g5, g6, g7, g8, g9⟩ := gth_r W H h G (by omega) hc
      have hm := mul_6 g8 g9
      have ih' := ih (k + 1) F (by omega) (by omega)
      rw [nC_y hc, eS] at ih'
      rw [f_R_sum_5, G.1, if_neg (by omega), g4, g5, g6]
      refine ok_call (P := fun r => r = sumF (fun f => if L = -1 ∨ a.place (a.ft f) = L then cnf a m t x y f else 0) a.fv k + (if L = -1 ∨ a.place (a.ft k) = L then cnf a m t x y k else 0) * a.fv k) ?_ ?_
      · refine ok_ite (fun e => ok_grd (by omega) (ok_grd (by omega) (ok_eqb g7 ?_))) (fun e => ok_grd (by omega) (ok_ite (fun e2 => ok_some ?_) (fun e2 => ok_grd (by omega) (ok_grd (by omega) (ok_eqb g7 ?_)))))
        · rw [if_pos (Or.inl e)]
          exact ok_grd (by (first | omega | (unfold r32; omega) | (unfold r64; omega) | (simp only [r32, r64] at *; omega))) (ok_grd (by (first | omega | (unfold r32; omega) | (unfold r64; omega) | (simp only [r32, r64] at *; omega))) (ok_some rfl))
        · rw [if_neg (fun q => by rcases q with q | q; exact e q; exact e2 q), Int.zero_mul, Int.add_zero]
        · rw [if_pos (Or.inr (Classical.not_not.mp e2))]
          exact ok_grd (by (first | omega | (unfold r32; omega) | (unfold r64; omega) | (simp only [r32, r64] at *; omega))) (ok_grd (by (first | omega | (unfold r32; omega) | (unfold r64; omega) | (simp only [r32, r64] at *; omega))) (ok_some rfl))
      · rintro r rfl
        exact ok_grd (by (first | omega | (unfold r32; omega) | (unfold r64; omega) | (simp only [r32, r64] at *; omega))) ih'
theorem c_last_4 (W : WFA a) (H : ICR σ a) (h : cin a t x y) (G : gth σ (cnf a m t x y) (fun f => a.place (a.ft f)) a.facts.toNat) : ∀ (j k F : Nat), (k : Int) + j = a.facts → j < F → Okk (f_R_lastPlace_4 σ F (lastF (cnf a m t x y) (fun f => a.place (a.ft f)) k) (nC (cnf a m t x y) k)) fun r => r.1 = lastF (cnf a m t x y) (fun f => a.place (a.ft f)) a.facts.toNat := by
  intro j
  induction j with
  | zero =>
    intro k F hk hF
    obtain ⟨F, rfl⟩ : ∃ G, F = G + 1 := ⟨F - 1, by omega⟩
    have e : a.facts.toNat = k := by omega
    rw [f_R_lastPlace_4, G.1, e, if_pos (Int.le_refl _)]
    exact ok_some rfl
  | succ j ih =>
    intro k F hk hF
    have eL : lastF (cnf a m t x y) (fun f => a.place (a.ft f)) (k + 1) = if cnf a m t x y k ≠ 0 ∧ lastF (cnf a m t x y) (fun f => a.place (a.ft f)) k < a.place (a.ft k) then a.place (a.ft k) else lastF (cnf a m t x y) (fun f => a.place (a.ft f)) k := rfl
    by_cases hc : cnf a m t x y k = 0
    · have := ih (k + 1) F (by omega) (by omega)
      rw [nC_n hc, eL, if_neg (fun g => g.1 hc)] at this
      exact this
    · obtain ⟨F, rfl⟩ : ∃ G, F = G + 1 := ⟨F - 1, by omega⟩
      obtain ⟨g1, g2, g3, g4, g5, g6, g7, g8, g9⟩ := gth_r W H h G (by omega) hc
      have ih' := ih (k + 1) F (by omega) (by omega)
      have e2 : max (lastF (cnf a m t x y) (fun f => a.place (a.ft f)) k) (a.place (a.ft k)) = lastF (cnf a m t x y) (fun f => a.place (a.ft f)) (k + 1) := by
        rw [eL]
        by_cases e : lastF (cnf a m t x y) (fun f => a.place (a.ft f)) k < a.place (a.ft k)
        · rw [if_pos ⟨hc, e⟩]; omega
        · rw [if_neg (fun q => e q.2)]; omega
      rw [nC_y hc] at ih'
      rw [f_R_lastPlace_4, G.1, if_neg (by omega), g6, e2]
      exact ok_grd (by omega) (ok_grd (by (first | omega | (unfold r32; omega) | (unfold r64; omega) | (simp only [r32, r64] at *; omega))) ih')
theorem c_diff_17 (W : WFA a) (H : ICR σ a) (h : cin a t x y) (G : gth σ (cnf a m t x y) (fun f => a.place (a.ft f)) a.facts.toNat) {i : Nat} (hi : (i : Int) < a.facts) (hci : cnf a m t x y i ≠ 0) : ∀ (j k F : Nat), k + j = i → j < F → Okk (f_R_different_17 σ (nC (cnf a m t x y) i) F (bI (∀ g : Nat, g < k → cnf a m t x y g ≠ 0 → a.fv g ≠ a.fv i)) (nC (cnf a m t x y) k)) fun r => r.1 = bI (∀ g : Nat, g < i → cnf a m t x y g ≠ 0 → a.fv g ≠ a.fv i) := by
  intro j
  induction j with
  | zero =>
    intro k F hk hF
    obtain ⟨F, rfl⟩ : ∃ G, F = G + 1 := ⟨F - 1, by omega⟩
    have e : k = i := by omega
    rw [f_R_different_17, e, if_pos (Int.le_refl _)]
    exact ok_some rfl
  | succ j ih =>
    intro k F hk hF
    have B : ∀ P : Prop, (P ↔ (cnf a m t x y k ≠ 0 → a.fv k ≠ a.fv i)) → bI ((∀ g : Nat, g < k → cnf a m t x y g ≠ 0 → a.fv g ≠ a.fv i) ∧ P) = bI (∀ g : Nat, g < k + 1 → cnf a m t x y g ≠ 0 → a.fv g ≠ a.fv i) := fun P hP => bI_iff ⟨fun q g hg => by
      by_cases e : g = k
      · rw [e]; exact hP.mp q.2
      · exact q.1 g (by omega), fun q => ⟨fun g hg => q g (by omega), hP.mpr (q k (by omega))⟩⟩
    by_cases hc : cnf a m t x y k = 0
    · have := ih (k + 1) F (by omega) (by omega)
      rw [nC_n hc, ← B True ⟨fun _ q => absurd hc q, fun _ => trivial⟩, and_true] at this
      exact this
    · obtain ⟨F, rfl⟩ : ∃ G, F = G + 1 := ⟨F - 1, by omega⟩
      obtain ⟨g1, g2, g3, g4, g5, g6, g7, g8, g9⟩ := gth_r W H h G (by omega : (k : Int) < a.facts) hc
      obtain ⟨i1, i2, i3, i4, i5, i6, i7, i8, i9⟩ := gth_r W H h G hi hci
      have hlt := nC_le (cnf a m t x y) (k + 1) (i - (k + 1))
      rw [show k + 1 + (i - (k + 1)) = i by omega, nC_y hc] at hlt
      have ih' := ih (k + 1) F (by omega) (by omega)
      rw [nC_y hc] at ih'
      rw [f_R_different_17, if_neg (by omega)]
      by_cases hA : ∀ g : Nat, g < k → cnf a m t x y g ≠ 0 → a.fv g ≠ a.fv i
      · rw [bI_t hA, if_neg (by omega), g4, i4]
        refine ok_grd (by omega) (ok_eqb g7 (ok_grd (by omega) (ok_eqb i7 ?_)))
        refine ok_call (P := fun r => r = bI (∀ g : Nat, g < k + 1 → cnf a m t x y g ≠ 0 → a.fv g ≠ a.fv i)) ?_ ?_
        · refine ok_ite (fun e => ok_some (bI_f (fun q => q k (by omega) hc e)).symm) (fun e => ok_some (bI_t (fun g hg hcg => ?_)).symm)
          by_cases e2 : g = k
          · rw [e2]; exact e
          · exact hA g (by omega) hcg
        · rintro r rfl
          exact ok_grd (by (first | omega | (unfold r32; omega) | (unfold r64; omega) | (simp only [r32, r64] at *; omega))) ih'
      · rw [bI_f hA, if_pos rfl]
        exact ok_some (bI_f (fun q => hA (fun g hg => q g (by omega)))).symm
theorem c_diff_4 (W : WFA a) (H : ICR σ a) (h : cin a t x y) (G : gth σ (cnf a m t x y) (fun f => a.place (a.ft f)) a.facts.toNat) : ∀ (j k F : Nat), (k : Int) + j = a.facts → j < F → Okk (f_R_different_4 σ F (diffF (cnf a m t x y) a.fv k) (nC (cnf a m t x y) k)) fun r => r.1 = diffF (cnf a m t x y) a.fv a.facts.toNat := by
  have h12 : 0 ≤ a.facts ∧ a.facts ≤ 50 ∧ _ := W 12
  intro j
  induction j with
  | zero =>
    intro k F hk hF
    obtain ⟨F, rfl⟩ : ∃ G, F = G + 1 := ⟨F - 1, by omega⟩
    have e : a.facts.toNat = k := by omega
    rw [f_R_different_4, G.1, e, if_pos (Int.le_refl _)]
    exact ok_some rfl
  | succ j ih =>
    intro k F hk hF
    have eD : diffF (cnf a m t x y) a.fv (k + 1) = @ite _ (cnf a m t x y k ≠ 0 ∧ ∀ g : Nat, g < k → cnf a m t x y g ≠ 0 → a.fv g ≠ a.fv k) (Classical.propDecidable _) (diffF (cnf a m t x y) a.fv k + 1) (diffF (cnf a m t x y) a.fv k) := rfl
    have hdb := diffF_b (cnf a m t x y) a.fv k
    by_cases hc : cnf a m t x y k = 0
    · have := ih (k + 1) F (by omega) (by omega)
      rw [nC_n hc, eD, if_neg (fun g => g.1 hc)] at this
      exact this
    · obtain ⟨F, rfl⟩ : ∃ G, F = G + 1 := ⟨F - 1, by omega⟩
      obtain ⟨g1, g2, g3, g4, g5, g6, g7, g8, g9⟩ := gth_r W H h G (by omega : (k : Int) < a.facts) hc
      have ih' := ih (k + 1) F (by omega) (by omega)
      rw [nC_y hc] at ih'
      rw [f_R_different_4, G.1, if_neg (by omega)]
      have h17 := c_diff_17 W H h G (by omega : (k : Int) < a.facts) hc k 0 zFuel (by omega) (by unfold zFuel; omega)
      rw [bI_t (fun g hg => absurd hg (by omega))] at h17
      refine ok_call h17 (fun r hr => ?_)
      refine ok_call (P := fun r => r = diffF (cnf a m t x y) a.fv (k + 1)) ?_ ?_
      · rw [hr]
        by_cases hA : ∀ g : Nat, g < k → cnf a m t x y g ≠ 0 → a.fv g ≠ a.fv k
        · rw [bI_t hA, if_neg (by omega)]
          exact ok_grd (by (first | omega | (unfold r32; omega) | (unfold r64; omega) | (simp only [r32, r64] at *; omega))) (ok_some (eD.trans (if_pos ⟨hc, hA⟩)).symm)
        · rw [bI_f hA, if_pos rfl]
          exact ok_some (eD.trans (if_neg (fun q => hA q.2))).symm
      · rintro r rfl
        exact ok_grd (by (first | omega | (unfold r32; omega) | (unfold r64; omega) | (simp only [r32, r64] at *; omega))) ih'
theorem c_ofGathered (W : WFA a) (H : ICR σ a) (h : cin a t x y) (m0 : 0 ≤ m) (m1 : m < a.measures) (G : gth σ (cnf a m t x y) (fun f => a.place (a.ft f)) a.facts.toNat) (hb : a.mk m = 3 → σ 120 (a.ma m) = who a (a.ma m) t x y ∧ σ 120 (a.mb m) = who a (a.mb m) t x y) : f_R_ofGathered σ m = some (who a m t x y) := by
  have hm := mea W m0 m1
  have h12 : 0 ≤ a.facts ∧ a.facts ≤ 50 ∧ _ := W 12
  have hM1 : ∀ m : Int, 0 ≤ m → m < a.measures → σ 96 m = a.mk m ∧ (a.mk m = 3 → σ 97 m = a.ma m ∧ σ 98 m = a.mb m) := H.2.2.2.2.2.1 1
  rw [who_s W m0 m1]
  unfold f_R_ofGathered; apply ok_eq
  refine ok_eqb (r_MS_kindOf W H.2.2.2.2.2.1 m0 m1) ?_
  by_cases h3 : a.mk m = 3
  · have hab := hm.2.2.2 h3
    have e := (hM1 m m0 m1).2 h3
    rw [if_neg (fun g => g h3), if_pos h3, e.1, e.2, (hb h3).1, (hb h3).2]
    refine ok_grd (by omega) (ok_grd (by omega) (ok_grd (by omega) (ok_grd (by omega) ?_)))
    exact ok_eqb (e_R_ratio σ (okv_who W h (by omega) (by omega)) (okv_who W h (by omega) (by omega))) (ok_some rfl)
  · rw [if_pos h3, if_neg h3, G.1]
    by_cases hz : nC (cnf a m t x y) a.facts.toNat = 0
    · rw [if_neg (fun g => g hz)]
      have hall := nC_0 hz
      have hl : ∀ k : Nat, (k : Int) ≤ a.facts → lastF (cnf a m t x y) (fun f => a.place (a.ft f)) k = -1 := by
        intro k
        induction k with
        | zero => intro _; rfl
        | succ k ihk =>
          intro hk
          show (if cnf a m t x y k ≠ 0 ∧ lastF (cnf a m t x y) (fun f => a.place (a.ft f)) k < a.place (a.ft k) then a.place (a.ft k) else lastF (cnf a m t x y) (fun f => a.place (a.ft f)) k) = -1
          rw [if_neg (fun g => g.1 (hall k (by omega)))]
          exact ihk (by omega)
      have hlf := hl a.facts.toNat (by omega)
      unfold plnV
      rw [if_pos (by omega)]
      exact ok_some rfl
    · rw [if_pos hz]
      have hn : ¬ lastF (cnf a m t x y) (fun f => a.place (a.ft f)) a.facts.toNat < 0 := by
        intro hl
        refine hz ?_
        have : ∀ k : Nat, (k : Int) ≤ a.facts → nC (cnf a m t x y) k = 0 := by
          intro k
          induction k with
          | zero => intro _; rfl
          | succ k ihk =>
            intro hk
            by_cases hc : cnf a m t x y k = 0
            · rw [nC_n hc]; exact ihk (by omega)
            · have hf := fct W (f := k) (by omega) (by omega)
              have hp := plc_b W hf.1.1 hf.1.2
              have := lastF_le (c := cnf a m t x y) (pl := fun f => a.place (a.ft f)) a.facts.toNat k (by omega) (by omega) hc
              omega
        exact this _ (by omega)
      have eP : plnV a m t x y = if a.mk m = 2 then diffF (cnf a m t x y) a.fv a.facts.toNat else if a.mk m = 1 then sumF (fun f => if a.place (a.ft f) = lastF (cnf a m t x y) (fun f => a.place (a.ft f)) a.facts.toNat then cnf a m t x y f else 0) a.fv a.facts.toNat else sumF (cnf a m t x y) a.fv a.facts.toNat := by
        unfold plnV; rw [if_neg hn]
      rw [eP]
      by_cases h2 : a.mk m = 2
      · rw [if_neg (fun g => g h2), if_pos h2]
        unfold f_R_different
        exact ok_bind (ok_call (c_diff_4 W H h G a.facts.toNat 0 zFuel (by omega) (by unfold zFuel; omega)) (fun r hr => ok_some (ok_some hr)))
      · rw [if_pos h2, if_neg h2]
        by_cases h1 : a.mk m = 1
        · rw [if_neg (fun g => g h1), if_pos h1]
          unfold f_R_lastPlace f_R_sum
          refine ok_bind (ok_bind (ok_call (c_last_4 W H h G a.facts.toNat 0 zFuel (by omega) (by unfold zFuel; omega)) (fun r hr => ok_some ?_)))
          rw [hr]
          refine ok_bind (ok_call (c_sum_5 W H h G _ a.facts.toNat 0 zFuel (by omega) (by unfold zFuel; omega)) (fun r hr => ok_some (ok_some (ok_some ?_))))
          rw [hr]
          refine sumF_e _ (fun f f0 f1 => ⟨?_, fun _ => rfl⟩)
          have : ¬ lastF (cnf a m t x y) (fun f => a.place (a.ft f)) a.facts.toNat = -1 := by omega
          simp only [this, false_or]
        · rw [if_pos h1, if_neg h1]
          unfold f_R_sum
          refine ok_bind (ok_bind (ok_call (c_sum_5 W H h G (-1) a.facts.toNat 0 zFuel (by omega) (by unfold zFuel; omega)) (fun r hr => ok_some (ok_some (ok_some ?_)))))
          rw [hr]
          exact sumF_e _ (fun f f0 f1 => ⟨if_pos (Or.inl rfl), fun _ => rfl⟩)
end

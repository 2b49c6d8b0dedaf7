/-! ===== the table of weights ===== -/
theorem wbF_keep {a : Ab} {d m top u : Int} {k : Nat} (h : wbF a d m top u k ≠ 2) : ∀ j : Nat, wbF a d m top u (k + j) = wbF a d m top u k
  | 0 => rfl
  | j + 1 => by
    have := wbF_keep h j
    show (if wbF a d m top u (k + j) ≠ 2 then wbF a d m top u (k + j) else _) = _
    rw [this, if_pos h]
theorem wbF_none {a : Ab} {d m top u : Int} {k : Nat} (h : wbF a d m top u k = 2) (hb : ∀ i : Nat, k ≤ i → ¬ bitP (a.set (12 * d + top)) i) : ∀ j : Nat, wbF a d m top u (k + j) = 2
  | 0 => h
  | j + 1 => by
    have := wbF_none h hb j
    show (if wbF a d m top u (k + j) ≠ 2 then wbF a d m top u (k + j) else if bitP (a.set (12 * d + top)) (k + j : Nat) then wt a d m (k + j : Nat) u else 2) = 2
    rw [if_neg (by omega), if_neg (hb (k + j) (by omega))]
theorem c_wbb {σ : Hp} {a : Ab} (W : WFA a) {p : Nat} {d : Int} (hd : inD d) (h0 : icd σ a p d 0) (h3 : icd σ a p d 3) (h5 : icd σ a p d 5) {r m b u : Int} (hr : 0 ≤ r ∧ r < 13) (hm : thr a d m) (hb : thr a d b) (hp : ¬ isP a d b) (hw : ∀ k : Int, 0 ≤ k → k < b → isP a d k → σ (p + 17 + r.toNat) (12 * m + k) = wt a d m k u) : ∀ (F k : Nat), (k : Int) ≤ b → b - k < F → (a.kind (12 * d + b) = 1 → wbF a d m b u k = 2) → f_D_weightByBridge_3 σ p r m b F k = some (wgt a d m b u) := by
  have h3' : ∀ m : Int, thr a d m → σ (p + 5) m = a.kind (12 * d + m) := h3
  have h5' : ∀ m : Int, thr a d m → a.kind (12 * d + m) = 1 → σ (p + 8) m = a.set (12 * d + m) := h5
  have hmb := many_b W hd
  have h4 := (show ∀ d m : Int, inD d → thr a d m → a.kind (12 * d + m) = 1 → 1 ≤ a.set (12 * d + m) ∧ a.set (12 * d + m) ≤ 4095 ∧ ∀ k : Int, 0 ≤ k → k < 12 → bitP (a.set (12 * d + m)) k → k < m ∧ isP a d k from W 4) d b hd hb
  have hb12 : b < 12 := by have := hb.2; omega
  have hm12 : m < 12 := by have := hm.2; omega
  have hm0 := hm.1
  have ek := h3' b hb
  have hwg : wgt a d m b u = if a.kind (12 * d + b) = 1 then wbF a d m b u 12 else 2 := by
    unfold wgt
    rw [if_neg hp]
  intro F
  induction F with
  | zero => intro k hk hF; omega
  | succ F ih =>
    intro k hk hF hacc
    rw [f_D_weightByBridge_3]
    apply ok_eq
    refine ok_ite (fun hc => ok_some ?_) (fun hc => ?_)
    · rw [hwg]
      by_cases hk1 : a.kind (12 * d + b) = 1
      · rw [if_pos hk1]
        have := wbF_none (hacc hk1) (fun i hi hbit => by
          by_cases hi12 : (i : Int) < 12
          · have := ((h4 hk1).2.2 i (by omega) hi12 hbit).1; omega
          · have hs := h4 hk1
            unfold bitP at hbit
            have e : a.set (12 * d + b) / 2 ^ ((i : Int)).toNat = 0 := by
              apply Int.ediv_eq_zero_of_lt (by omega)
              have h12 : (2 : Nat) ^ 12 ≤ 2 ^ i := Nat.pow_le_pow_right (by omega) (by omega)
              have e2 : ((2 : Int) ^ ((i : Int)).toNat) = ((2 ^ i : Nat) : Int) := by simp
              rw [e2]
              omega
            rw [e] at hbit
            omega) (12 - k)
        rw [show k + (12 - k) = 12 by omega] at this
        exact this.symm
      · rw [if_neg hk1]
    · have hk12 : (k : Int) < 12 := by omega
      refine ok_grd (by omega) (ok_grd (by (first | omega | (unfold r32; omega) | (unfold r64; omega) | (simp only [r32, r64] at *; omega))) (ok_grd (by (first | omega | (unfold r32; omega) | (unfold r64; omega) | (simp only [r32, r64] at *; omega))) (ok_grd (by omega) ?_)))
      refine ok_eqb (e_D_standsFor σ p b k ⟨hb.1, hb12⟩ ⟨by omega, by omega⟩ (fun g => by
        have g1 : a.kind (12 * d + b) = 1 := by rw [← ek]; exact g
        rw [h5' b hb g1]
        have := h4 g1
        omega)) ?_
      rw [ek, show m * 12 + (k : Int) = 12 * m + k by omega]
      by_cases hk1 : a.kind (12 * d + b) = 1 ∧ bitP (σ (p + 8) b) k
      · rw [bI_t hk1, if_neg (by omega)]
        have hbit : bitP (a.set (12 * d + b)) k := by rw [← h5' b hb hk1.1]; exact hk1.2
        have hpk := (h4 hk1.1).2.2 k (by omega) hk12 hbit
        have ew := hw k (by omega) hpk.1 hpk.2
        have e17 : p + 16 + 1 + r.toNat = p + 17 + r.toNat := by omega
        rw [e17, ew]
        have es : wbF a d m b u (k + 1) = wt a d m k u := by
          show (if wbF a d m b u k ≠ 2 then wbF a d m b u k else if bitP (a.set (12 * d + b)) k then wt a d m k u else 2) = _
          rw [if_neg (by rw [hacc hk1.1]; simp), if_pos hbit]
        refine ok_ite (fun h2 => ok_grd (by (first | omega | (unfold r32; omega) | (unfold r64; omega) | (simp only [r32, r64] at *; omega))) (eq_ok (ih (k + 1) (by omega) (by omega) (fun _ => by rw [es, h2])) rfl)) (fun h2 => ok_some ?_)
        rw [hwg, if_pos hk1.1]
        have := wbF_keep (k := k + 1) (by rw [es]; exact h2) (12 - (k + 1))
        rw [show k + 1 + (12 - (k + 1)) = 12 by omega, es] at this
        exact this.symm
      · rw [bI_f hk1, if_pos rfl]
        refine ok_grd (by (first | omega | (unfold r32; omega) | (unfold r64; omega) | (simp only [r32, r64] at *; omega))) (eq_ok (ih (k + 1) (by omega) (by omega) (fun g => ?_)) rfl)
        show (if wbF a d m b u k ≠ 2 then wbF a d m b u k else if bitP (a.set (12 * d + b)) k then wt a d m k u else 2) = 2
        rw [if_neg (by rw [hacc g]; simp), if_neg (fun hbit => hk1 ⟨g, by rw [h5' b hb g]; exact hbit⟩)]
theorem wgt_p {a : Ab} {d m o u : Int} (h : isP a d o) : wgt a d m o u = wt a d m o u := by unfold wgt; rw [if_pos h]
theorem c_weightOver {σ : Hp} {a : Ab} (W : WFA a) {p : Nat} {d : Int} (hd : inD d) (h0 : icd σ a p d 0) (h3 : icd σ a p d 3) (h4 : icd σ a p d 4) (h5 : icd σ a p d 5) {r m o u : Int} (hr : 0 ≤ r ∧ r < 13) (hm : thr a d m) (hpm : isP a d m) (ho : thr a d o) (hw : ∀ k : Int, 0 ≤ k → k < o → isP a d k → σ (p + 17 + r.toNat) (12 * m + k) = wt a d m k u) (hq : 0 < m → isP a d o → o ≤ prn a d m u → σ (p + 17 + r.toNat) (12 * prn a d m u + o) = wt a d (prn a d m u) o u) : f_D_weightOver σ p r m (if m = 0 then -1 else prn a d m u) o = some (wgt a d m o u) := by
  have hmb := many_b W hd
  have hm12 : m < 12 := by have := hm.2; omega
  have hm0 := hm.1
  have ho12 : o < 12 := by have := ho.2; omega
  have ho0 := ho.1
  unfold f_D_weightOver
  apply ok_eq
  refine ok_eqb (r_isPlain W hd h0 h3 o) ?_
  by_cases hpo : isP a d o
  · rw [bI_t ⟨ho, hpo⟩, if_pos (by omega), wgt_p hpo]
    by_cases hom : o = m
    · subst hom
      rw [if_neg (by simp), wt_e]
      exact ok_some rfl
    · rw [if_pos hom]
      by_cases hz : m = 0
      · rw [if_pos hz, if_neg (by omega), wt_l (by omega)]
        exact ok_bind (ok_some (ok_bind (by rw [if_neg (by simp)]; exact ok_some (ok_some rfl))))
      · rw [if_neg hz]
        have hpb := prn_b W hd hm hpm (by omega) u
        have e17 : p + 16 + 1 + r.toNat = p + 17 + r.toNat := by omega
        rw [e17, show prn a d m u * 12 + o = 12 * prn a d m u + o by omega]
        have h4' : σ (p + 6) m = a.par (12 * d + m) ∧ σ (p + 7) m = a.sign (12 * d + m) := (show ∀ m : Int, thr a d m → isP a d m → 0 < m → σ (p + 6) m = a.par (12 * d + m) ∧ σ (p + 7) m = a.sign (12 * d + m) from h4) m hm hpm (by omega)
        have hsg : 0 ≤ a.par (12 * d + m) ∧ a.par (12 * d + m) < m ∧ isP a d (a.par (12 * d + m)) ∧ -1 ≤ a.sign (12 * d + m) ∧ a.sign (12 * d + m) ≤ 1 := W 3 d m hd hm hpm (by omega)
        by_cases hlt : o ≤ prn a d m u
        · rw [if_pos hlt]
          have e := hq (by omega) hpo hlt
          rw [e]
          have hwr := wt_r W hd (u := u) ho0 _ (prn a d m u) (thr_lt hm hpb.1 (by omega)) hpb.2.2 (Nat.le_refl _)
          refine ok_bind (ok_grd (by omega) (ok_grd (by (first | omega | (unfold r32; omega) | (unfold r64; omega) | (simp only [r32, r64] at *; omega))) (ok_grd (by (first | omega | (unfold r32; omega) | (unfold r64; omega) | (simp only [r32, r64] at *; omega))) (ok_grd (by omega) (ok_some ?_)))))
          rw [wt_s W hd hm hpm ho0 (by omega), upw_prn W, h4'.2]
          by_cases h2 : wt a d (prn a d m u) o u = 2
          · rw [if_neg (by omega), if_pos h2]; exact ok_bind (ok_some (ok_some rfl))
          · rw [if_pos h2, if_neg h2]
            refine ok_bind (ok_grd (by omega) (ok_grd ?_ (ok_some (ok_some rfl))))
            have e1 : wt a d (prn a d m u) o u = -1 ∨ wt a d (prn a d m u) o u = 0 ∨ wt a d (prn a d m u) o u = 1 := by omega
            rcases e1 with e1 | e1 | e1 <;> rw [e1] <;> unfold r32 <;> omega
        · rw [if_neg hlt]
          refine ok_bind (ok_some (ok_bind ?_))
          rw [if_neg (by simp)]
          refine ok_some (ok_some ?_)
          by_cases hmo : m < o
          · rw [wt_l hmo]
          · rw [wt_s W hd hm hpm ho0 (by omega), upw_prn W, wt_l (by omega), if_pos rfl]
  · rw [bI_f (fun g => hpo g.2), if_neg (by omega)]
    unfold f_D_weightByBridge
    exact ok_eqb (c_wbb W hd h0 h3 h5 hr hm ho hpo hw zFuel 0 (by omega) (by unfold zFuel; omega) (fun _ => rfl)) (ok_some rfl)

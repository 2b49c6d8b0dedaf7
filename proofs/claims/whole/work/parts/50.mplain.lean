/-! ===== the reference's plain values ===== -/
theorem lastF_ge (c pl : Int → Int) : ∀ k : Nat, -1 ≤ lastF c pl k
  | 0 => by unfold lastF; omega
  | k + 1 => by
    have ih := lastF_ge c pl k
    unfold lastF
    by_cases h : c k ≠ 0 ∧ lastF c pl k < pl k
    · rw [if_pos h]; omega
    · rw [if_neg h]; exact ih
theorem lastF_le {c pl : Int → Int} : ∀ (k : Nat) (f : Int), 0 ≤ f → f < k → c f ≠ 0 → pl f ≤ lastF c pl k
  | 0, f, h0, h1, _ => by omega
  | k + 1, f, h0, h1, hc => by
    unfold lastF
    by_cases e : f = k
    · subst e
      by_cases h : c k ≠ 0 ∧ lastF c pl k < pl k
      · rw [if_pos h]; omega
      · rw [if_neg h]
        have : ¬ lastF c pl k < pl k := fun g => h ⟨hc, g⟩
        omega
    · have ih := lastF_le (pl := pl) k f h0 (by omega) hc
      by_cases h : c k ≠ 0 ∧ lastF c pl k < pl k
      · rw [if_pos h]; omega
      · rw [if_neg h]; exact ih
theorem sumF_0 {c v : Int → Int} : ∀ (k : Nat), (∀ f : Int, 0 ≤ f → f < k → c f = 0) → sumF c v k = 0
  | 0, _ => rfl
  | k + 1, h => by
    show sumF c v k + c k * v k = 0
    rw [sumF_0 k (fun f h0 h1 => h f h0 (by omega)), h k (by omega) (by omega)]; omega
theorem sumF_e {c c' v v' : Int → Int} : ∀ (k : Nat), (∀ f : Int, 0 ≤ f → f < k → c f = c' f ∧ (c f ≠ 0 → v f = v' f)) → sumF c v k = sumF c' v' k
  | 0, _ => rfl
  | k + 1, h => by
    show sumF c v k + c k * v k = sumF c' v' k + c' k * v' k
    have := h k (by omega) (by omega)
    rw [sumF_e k (fun f h0 h1 => h f h0 (by omega)), ← this.1]
    by_cases e : c k = 0
    · rw [e]; omega
    · rw [this.2 e]
theorem mul_6 {c v : Int} (hc : -1 ≤ c ∧ c ≤ 1) (hv : -1000000 ≤ v ∧ v ≤ 1000000) : -1000000 ≤ c * v ∧ c * v ≤ 1000000 := by
  have e : c = -1 ∨ c = 0 ∨ c = 1 := by omega
  rcases e with rfl | rfl | rfl <;> omega
theorem sumF_b {c v : Int → Int} : ∀ (k : Nat), (∀ f : Int, 0 ≤ f → f < k → -1 ≤ c f ∧ c f ≤ 1 ∧ -1000000 ≤ v f ∧ v f ≤ 1000000) → -1000000 * (k : Int) ≤ sumF c v k ∧ sumF c v k ≤ 1000000 * (k : Int)
  | 0, _ => by unfold sumF; omega
  | k + 1, h => by
    have ih := sumF_b k (fun f h0 h1 => h f h0 (by omega))
    have := h k (by omega) (by omega)
    have := mul_6 ⟨this.1, this.2.1⟩ this.2.2
    show _ ≤ sumF c v k + c k * v k ∧ sumF c v k + c k * v k ≤ _
    omega
theorem diffF_b (c v : Int → Int) : ∀ k : Nat, 0 ≤ diffF c v k ∧ diffF c v k ≤ k
  | 0 => by unfold diffF; omega
  | k + 1 => by
    have ih := diffF_b c v k
    unfold diffF
    by_cases h : c k ≠ 0 ∧ ∀ g : Nat, g < k → c g ≠ 0 → v g ≠ v k
    · rw [if_pos h]; omega
    · rw [if_neg h]; omega
/-- the sum of what stands last so far -/
noncomputable def lsF (c pl v : Int → Int) (k : Nat) : Int := sumF (fun f => if pl f = lastF c pl k then c f else 0) v k
theorem lsF_s {c pl v : Int → Int} (k : Nat) : lsF c pl v (k + 1) = if c k = 0 then lsF c pl v k else if lastF c pl k < pl k then c k * v k else if pl k < lastF c pl k then lsF c pl v k else lsF c pl v k + c k * v k := by
  have e0 : lastF c pl (k + 1) = if c k ≠ 0 ∧ lastF c pl k < pl k then pl k else lastF c pl k := rfl
  have e1 : lsF c pl v (k + 1) = sumF (fun f => if pl f = lastF c pl (k + 1) then c f else 0) v k + (if pl k = lastF c pl (k + 1) then c k else 0) * v k := rfl
  rw [e1, e0]
  by_cases h0 : c k = 0
  · rw [if_pos h0, if_neg (fun g => g.1 h0), h0]
    unfold lsF
    by_cases h : pl k = lastF c pl k
    · rw [if_pos h]; omega
    · rw [if_neg h]; omega
  · rw [if_neg h0]
    by_cases h1 : lastF c pl k < pl k
    · rw [if_pos ⟨h0, h1⟩, if_pos h1, if_pos rfl, sumF_0 k (fun f f0 f1 => ?_)]
      · omega
      · by_cases e : pl f = pl k
        · rw [if_pos e]
          by_cases hc : c f = 0
          · exact hc
          · have := lastF_le (pl := pl) k f f0 f1 hc; omega
        · rw [if_neg e]
    · rw [if_neg (fun g => h1 g.2), if_neg h1]
      unfold lsF
      by_cases h2 : pl k < lastF c pl k
      · rw [if_neg (by omega), if_pos h2]; omega
      · rw [if_pos (by omega), if_neg h2]
theorem lsF_b {c pl v : Int → Int} (k : Nat) (h : ∀ f : Int, 0 ≤ f → f < k → -1 ≤ c f ∧ c f ≤ 1 ∧ -1000000 ≤ v f ∧ v f ≤ 1000000) : -1000000 * (k : Int) ≤ lsF c pl v k ∧ lsF c pl v k ≤ 1000000 * (k : Int) := by
  refine sumF_b k (fun f h0 h1 => ?_)
  have := h f h0 h1
  by_cases e : pl f = lastF c pl k
  · rw [if_pos e]; exact this
  · rw [if_neg e]; omega
theorem cnf_r {a : Ab} (W : WFA a) {m t x y : Int} (ht : 0 ≤ t) (hx : 0 ≤ x) (hy : 0 ≤ y) {f : Int} (h0 : 0 ≤ f) (h1 : f < a.facts) : -1 ≤ cnf a m t x y f ∧ cnf a m t x y f ≤ 1 := by
  obtain ⟨f0, f1, f2, -⟩ := fct W h0 h1
  unfold cnf
  by_cases h : a.fm f = m
  · rw [if_pos h]; exact cnt_r W f0 f1 f2 ht hx hy
  · rw [if_neg h]; omega
theorem e_M_plain_153 {σ : Hp} {a : Ab} (W : WFA a) (V : Vw σ a) {t x y m f : Int} (ht : thr a 0 t) (hx : thr a 1 x) (hy : thr a 2 y) (h0 : 0 ≤ f) (h1 : f < a.facts) : ∀ (F k : Nat), (k : Int) ≤ f → f - k < F → Okk (f_M_plain_153 σ t x y m f F (bI (∀ g : Nat, g < k → cnf a m t x y g ≠ 0 → a.fv g ≠ a.fv f)) k) fun r => r.1 = bI (∀ g : Nat, (g : Int) < f → cnf a m t x y g ≠ 0 → a.fv g ≠ a.fv f) := by
  have hf := fct W h0 h1
  intro F
  induction F with
  | zero => intro k hk hF; omega
  | succ F ih =>
    intro k hk hF
    rw [f_M_plain_153]
    refine ok_ite (fun h => ok_some (bI_iff ⟨fun g i hi => g i (by omega), fun g i hi => g i (by omega)⟩)) (fun h => ?_)
    simp only [w_fm V, w_fv V]
    refine ok_grd (by omega) (ok_call (P := fun r => r = bI (cnf a m t x y k ≠ 0 → a.fv k ≠ a.fv f)) ?_ ?_)
    · unfold cnf
      refine ok_ite (fun g => ok_some ?_) (fun g => ?_)
      · rw [if_neg g]; exact (bI_t (fun q => absurd rfl q)).symm
      · rw [if_pos (show a.fm (k : Int) = m by omega)]
        refine ok_grd (by omega) (ok_grd (by omega) (ok_ite (fun g2 => ok_some (bI_t (fun _ => g2)).symm) (fun g2 => ?_)))
        refine ok_eqb (e_M_counts W V (by omega) (by omega) ht hx hy) ?_
        refine ok_ite (fun g3 => ok_some (bI_f (fun q => g2 (q g3))).symm) (fun g3 => ok_some (bI_t (fun q => absurd q g3)).symm)
    · rintro r rfl
      refine ok_grd (by (first | omega | (unfold r32; omega) | (unfold r64; omega) | (simp only [r32, r64] at *; omega))) ?_
      rw [iand_b, show bI ((∀ g : Nat, g < k → cnf a m t x y g ≠ 0 → a.fv g ≠ a.fv f) ∧ (cnf a m t x y k ≠ 0 → a.fv k ≠ a.fv f)) = bI (∀ g : Nat, g < k + 1 → cnf a m t x y g ≠ 0 → a.fv g ≠ a.fv f) from bI_iff ⟨fun q g hg => by
        by_cases e : g = k
        · rw [e]; exact q.2
        · exact q.1 g (by omega), fun q => ⟨fun g hg => q g (by omega), q k (by omega)⟩⟩]
      have := ih (k + 1) (by omega) (by omega)
      rw [show ((k + 1 : Nat) : Int) = (k : Int) + 1 by omega] at this
      exact this
theorem e_M_plain_12 {σ : Hp} {a : Ab} (W : WFA a) (V : Vw σ a) {t x y m : Int} (ht : thr a 0 t) (hx : thr a 1 x) (hy : thr a 2 y) (m0 : 0 ≤ m) (m1 : m < a.measures) : ∀ (F k : Nat), (k : Int) ≤ a.facts → a.facts - k < F → Okk (f_M_plain_12 σ t x y m F (lastF (cnf a m t x y) (fun f => a.place (a.ft f)) k) (if a.mk m = 1 then lsF (cnf a m t x y) (fun f => a.place (a.ft f)) a.fv k else sumF (cnf a m t x y) a.fv k) (diffF (cnf a m t x y) a.fv k) k) fun r => r.1 = lastF (cnf a m t x y) (fun f => a.place (a.ft f)) a.facts.toNat ∧ r.2.1 = (if a.mk m = 1 then lsF (cnf a m t x y) (fun f => a.place (a.ft f)) a.fv a.facts.toNat else sumF (cnf a m t x y) a.fv a.facts.toNat) ∧ r.2.2.1 = diffF (cnf a m t x y) a.fv a.facts.toNat := by
  have hm := mea W m0 m1
  intro F
  induction F with
  | zero => intro k hk hF; omega
  | succ F ih =>
    intro k hk hF
    rw [f_M_plain_12, w_facts V]
    refine ok_ite (fun h => ok_some ?_) (fun h => ?_)
    · have : k = a.facts.toNat := by omega
      rw [← this]; exact ⟨rfl, rfl, rfl⟩
    · have hf := fct W (f := k) (by omega) (by omega)
      have f0 := hf.1
      have t12 := thr12 W iD0 f0.1
      have pb := plc_b W f0.1 f0.2
      have hcr := cnf_r W (m := m) ht.1 hx.1 hy.1 (f := k) (by omega) (by omega)
      have hv := hf.2.2.2.2.2.2
      have hlg := lastF_ge (cnf a m t x y) (fun f => a.place (a.ft f)) k
      have hdb := diffF_b (cnf a m t x y) a.fv k
      have hall : ∀ f : Int, 0 ≤ f → f < k → -1 ≤ cnf a m t x y f ∧ cnf a m t x y f ≤ 1 ∧ -1000000 ≤ a.fv f ∧ a.fv f ≤ 1000000 := fun f g0 g1 => by
        have h1 := cnf_r W (m := m) ht.1 hx.1 hy.1 (f := f) (by omega) (by omega)
        have h2 := (fct W (f := f) (by omega) (by omega)).2.2.2.2.2.2
        exact ⟨h1.1, h1.2, h2.1, h2.2.1⟩
      have hsb := sumF_b k hall
      have hlb := lsF_b (pl := fun f => a.place (a.ft f)) k hall
      have hcv := mul_6 hcr ⟨hv.1, hv.2.1⟩
      have hst : ∀ p q r s : Int, p = lastF (cnf a m t x y) (fun f => a.place (a.ft f)) (k + 1) → q = (if a.mk m = 1 then lsF (cnf a m t x y) (fun f => a.place (a.ft f)) a.fv (k + 1) else sumF (cnf a m t x y) a.fv (k + 1)) → r = diffF (cnf a m t x y) a.fv (k + 1) → s = ((k + 1 : Nat) : Int) → Okk (f_M_plain_12 σ t x y m F p q r s) fun r => r.1 = lastF (cnf a m t x y) (fun f => a.place (a.ft f)) a.facts.toNat ∧ r.2.1 = (if a.mk m = 1 then lsF (cnf a m t x y) (fun f => a.place (a.ft f)) a.fv a.facts.toNat else sumF (cnf a m t x y) a.fv a.facts.toNat) ∧ r.2.2.1 = diffF (cnf a m t x y) a.fv a.facts.toNat := by
        rintro p q r s rfl rfl rfl rfl
        exact ih (k + 1) (by omega) (by omega)
      have eL : lastF (cnf a m t x y) (fun f => a.place (a.ft f)) (k + 1) = if cnf a m t x y k ≠ 0 ∧ lastF (cnf a m t x y) (fun f => a.place (a.ft f)) k < a.place (a.ft k) then a.place (a.ft k) else lastF (cnf a m t x y) (fun f => a.place (a.ft f)) k := rfl
      have eS : sumF (cnf a m t x y) a.fv (k + 1) = sumF (cnf a m t x y) a.fv k + cnf a m t x y k * a.fv k := rfl
      have eN := lsF_s (c := cnf a m t x y) (pl := fun f => a.place (a.ft f)) (v := a.fv) k
      have eD : diffF (cnf a m t x y) a.fv (k + 1) = @ite _ (cnf a m t x y k ≠ 0 ∧ ∀ g : Nat, g < k → cnf a m t x y g ≠ 0 → a.fv g ≠ a.fv k) (Classical.propDecidable _) (diffF (cnf a m t x y) a.fv k + 1) (diffF (cnf a m t x y) a.fv k) := rfl
      simp only [w_fm V, w_fv V, w_ft V, w_mk V, w_place V]
      refine ok_grd (by omega) (ok_call (P := fun r => r = cnf a m t x y k) ?_ ?_)
      · unfold cnf
        refine ok_ite (fun g => ok_some (by rw [if_neg g])) (fun g => ?_)
        rw [if_pos (by omega)]
        exact ok_eqb (e_M_counts W V (by omega) (by omega) ht hx hy) (ok_some rfl)
      · rintro r rfl
        refine ok_call (P := fun r => r = (lastF (cnf a m t x y) (fun f => a.place (a.ft f)) (k + 1), (if a.mk m = 1 then lsF (cnf a m t x y) (fun f => a.place (a.ft f)) a.fv (k + 1) else sumF (cnf a m t x y) a.fv (k + 1)), diffF (cnf a m t x y) a.fv (k + 1))) ?_ ?_
        · refine ok_ite (fun hz => ok_some ?_) (fun hz => ?_)
          · have z1 : lastF (cnf a m t x y) (fun f => a.place (a.ft f)) (k + 1) = lastF (cnf a m t x y) (fun f => a.place (a.ft f)) k := by rw [eL]; exact if_neg (fun g => g.1 hz)
            have z2 : diffF (cnf a m t x y) a.fv (k + 1) = diffF (cnf a m t x y) a.fv k := by rw [eD]; exact if_neg (fun g => g.1 hz)
            have z3 : lsF (cnf a m t x y) (fun f => a.place (a.ft f)) a.fv (k + 1) = lsF (cnf a m t x y) (fun f => a.place (a.ft f)) a.fv k := by rw [eN]; exact if_pos hz
            have z4 : sumF (cnf a m t x y) a.fv (k + 1) = sumF (cnf a m t x y) a.fv k := by rw [eS, hz, Int.zero_mul, Int.add_zero]
            rw [z1, z2, z3, z4]
          · refine ok_grd (by omega) (ok_grd t12 (ok_grd (by omega) ?_))
            refine ok_call (P := fun r => r = if a.mk m = 1 ∧ lastF (cnf a m t x y) (fun f => a.place (a.ft f)) k < a.place (a.ft k) then 0 else (if a.mk m = 1 then lsF (cnf a m t x y) (fun f => a.place (a.ft f)) a.fv k else sumF (cnf a m t x y) a.fv k)) ?_ ?_
            · refine ok_ite (fun g => ok_some (if_neg (fun q => g q.1)).symm) (fun g => ok_ite (fun g2 => ok_some (if_neg (fun q => by have := q.2; omega)).symm) (fun g2 => ok_some (if_pos ⟨by omega, by omega⟩).symm))
            · rintro r rfl
              refine ok_grd (by omega) ?_
              refine ok_call (P := fun r => r = if a.mk m = 1 ∧ a.place (a.ft k) < lastF (cnf a m t x y) (fun f => a.place (a.ft f)) k then 0 else cnf a m t x y k * a.fv k) ?_ ?_
              · refine ok_ite (fun g => ok_grd (by omega) (ok_grd (by (first | omega | (unfold r32; omega) | (unfold r64; omega) | (simp only [r32, r64] at *; omega))) (ok_some (if_neg (fun q => g q.1)).symm))) (fun g => ok_ite (fun g2 => ok_grd (by omega) (ok_grd (by (first | omega | (unfold r32; omega) | (unfold r64; omega) | (simp only [r32, r64] at *; omega))) (ok_some (if_neg (fun q => by have := q.2; omega)).symm))) (fun g2 => ok_some (if_pos ⟨by omega, by omega⟩).symm))
              · rintro r rfl
                have eQ : (if a.mk m = 1 ∧ lastF (cnf a m t x y) (fun f => a.place (a.ft f)) k < a.place (a.ft k) then 0 else (if a.mk m = 1 then lsF (cnf a m t x y) (fun f => a.place (a.ft f)) a.fv k else sumF (cnf a m t x y) a.fv k)) + (if a.mk m = 1 ∧ a.place (a.ft k) < lastF (cnf a m t x y) (fun f => a.place (a.ft f)) k then 0 else cnf a m t x y k * a.fv k) = (if a.mk m = 1 then lsF (cnf a m t x y) (fun f => a.place (a.ft f)) a.fv (k + 1) else sumF (cnf a m t x y) a.fv (k + 1)) := by
                  by_cases g1 : a.mk m = 1
                  · rw [if_pos g1, if_pos g1, eN, if_neg hz]
                    by_cases g2 : lastF (cnf a m t x y) (fun f => a.place (a.ft f)) k < a.place (a.ft k)
                    · rw [if_pos ⟨g1, g2⟩, if_neg (fun q => by omega), if_pos g2]; omega
                    · rw [if_neg (fun q => g2 q.2), if_neg g2]
                      by_cases g3 : a.place (a.ft k) < lastF (cnf a m t x y) (fun f => a.place (a.ft f)) k
                      · rw [if_pos ⟨g1, g3⟩, if_pos g3]; omega
                      · rw [if_neg (fun q => g3 q.2), if_neg g3]
                  · simp only [g1, false_and, if_false]; rw [eS]
                have hsb2 := sumF_b (k + 1) (c := cnf a m t x y) (v := a.fv) (fun f g0 g1 => by
                  by_cases e : f = k
                  · rw [e]; exact ⟨hcr.1, hcr.2, hv.1, hv.2.1⟩
                  · exact hall f g0 (by omega))
                have hlb2 := lsF_b (k + 1) (c := cnf a m t x y) (pl := fun f => a.place (a.ft f)) (v := a.fv) (fun f g0 g1 => by
                  by_cases e : f = k
                  · rw [e]; exact ⟨hcr.1, hcr.2, hv.1, hv.2.1⟩
                  · exact hall f g0 (by omega))
                rw [eQ]
                refine ok_grd ?_ ?_
                · by_cases g1 : a.mk m = 1
                  · rw [if_pos g1]; (first | omega | (unfold r32; omega) | (unfold r64; omega) | (simp only [r32, r64] at *; omega))
                  · rw [if_neg g1]; (first | omega | (unfold r32; omega) | (unfold r64; omega) | (simp only [r32, r64] at *; omega))
                · refine ok_call (P := fun r => r = lastF (cnf a m t x y) (fun f => a.place (a.ft f)) (k + 1)) ?_ ?_
                  · rw [eL]
                    exact ok_ite (fun g => ok_some (if_neg (fun q => by have := q.2; omega)).symm) (fun g => ok_some (if_pos ⟨hz, by omega⟩).symm)
                  · rintro r rfl
                    have h153 := e_M_plain_153 W V (m := m) ht hx hy (f := k) (by omega) (by omega) zFuel 0 (by omega) (by unfold zFuel; omega)
                    rw [bI_t (fun g hg => absurd hg (by omega))] at h153
                    refine ok_call h153 (fun r hr => ?_)
                    refine ok_call (P := fun r => diffF (cnf a m t x y) a.fv k + r = diffF (cnf a m t x y) a.fv (k + 1) ∧ 0 ≤ r ∧ r ≤ 1) ?_ ?_
                    · rw [hr]
                      by_cases g : ∀ g : Nat, (g : Int) < (k : Int) → cnf a m t x y g ≠ 0 → a.fv g ≠ a.fv k
                      · have z : diffF (cnf a m t x y) a.fv (k + 1) = diffF (cnf a m t x y) a.fv k + 1 := by rw [eD]; exact if_pos ⟨hz, fun i hi => g i (by omega)⟩
                        rw [bI_t g, if_neg (by omega)]
                        exact ok_some ⟨z.symm, by omega, by omega⟩
                      · have z : diffF (cnf a m t x y) a.fv (k + 1) = diffF (cnf a m t x y) a.fv k := by rw [eD]; exact if_neg (fun q => g (fun i hi => q.2 i (by omega)))
                        rw [bI_f g, if_pos rfl]
                        exact ok_some ⟨by omega, by omega, by omega⟩
                    · rintro r ⟨r1, r2, r3⟩
                      refine ok_grd (by (first | omega | (unfold r32; omega) | (unfold r64; omega) | (simp only [r32, r64] at *; omega))) (ok_some ?_)
                      rw [r1]
        · rintro r rfl
          exact ok_grd (by (first | omega | (unfold r32; omega) | (unfold r64; omega) | (simp only [r32, r64] at *; omega))) (hst _ _ _ _ rfl rfl rfl (by omega))
theorem e_M_plain {σ : Hp} {a : Ab} (W : WFA a) (V : Vw σ a) {t x y m : Int} (ht : thr a 0 t) (hx : thr a 1 x) (hy : thr a 2 y) (m0 : 0 ≤ m) (m1 : m < a.measures) : f_M_plain σ t x y m = some (plnV a m t x y) := by
  have hm := mea W m0 m1
  have h12 : 0 ≤ a.facts ∧ a.facts ≤ 50 ∧ _ := W 12
  have := e_M_plain_12 W V ht hx hy m0 m1 zFuel 0 (by omega) (by unfold zFuel; omega)
  rw [show lastF (cnf a m t x y) (fun f => a.place (a.ft f)) 0 = -1 from rfl, show lsF (cnf a m t x y) (fun f => a.place (a.ft f)) a.fv 0 = 0 from rfl, show sumF (cnf a m t x y) a.fv 0 = 0 from rfl, show diffF (cnf a m t x y) a.fv 0 = 0 from rfl, ite_self] at this
  unfold f_M_plain plnV; apply ok_eq
  refine ok_call this (fun r hr => ?_)
  rw [hr.1, hr.2.1, hr.2.2, w_mk V]
  by_cases h : lastF (cnf a m t x y) (fun f => a.place (a.ft f)) a.facts.toNat < 0
  · rw [if_neg (by omega), if_pos h]; exact ok_bind (ok_some (ok_some rfl))
  · rw [if_pos (by omega), if_neg h]
    refine ok_bind (ok_grd (by omega) ?_)
    by_cases h2 : a.mk m = 2
    · rw [if_neg (by intro g; exact g h2), if_pos h2]; exact ok_some (ok_some rfl)
    · rw [if_pos h2, if_neg h2]
      by_cases h1 : a.mk m = 1
      · rw [if_pos h1, if_pos h1]; exact ok_some (ok_some rfl)
      · rw [if_neg h1, if_neg h1]; exact ok_some (ok_some rfl)

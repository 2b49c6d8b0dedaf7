/-! ===== fact, forget ===== -/
section
variable {σ : Hp} {a b : Ab} {n : Nat} {B : Int} {e : Nat}
def isF (a : Ab) (t x y m f : Int) : Prop := a.ft f = t ∧ a.fa f = x ∧ a.fb f = y ∧ a.fm f = m
theorem isF_u (W : WFA a) {t x y m f g : Int} (f0 : 0 ≤ f) (f1 : f < a.facts) (g0 : 0 ≤ g) (g1 : g < a.facts) (hf : isF a t x y m f) (hg : isF a t x y m g) : f = g := (show ∀ f g : Int, 0 ≤ f → f < a.facts → 0 ≤ g → g < a.facts → a.ft f = a.ft g → a.fa f = a.fa g → a.fb f = a.fb g → a.fm f = a.fm g → f = g from W 18) f g f0 f1 g0 g1 (hf.1.trans hg.1.symm) (hf.2.1.trans hg.2.1.symm) (hf.2.2.1.trans hg.2.2.1.symm) (hf.2.2.2.trans hg.2.2.2.symm)
theorem e_FR_find (W : WFA a) (H : ICF σ a) {t x y m : Int} (h : cin a t x y) : Okk (f_FR_find σ (clq t x y) m) fun r => (r = -1 ∧ ∀ f : Int, 0 ≤ f → f < a.facts → ¬ isF a t x y m f) ∨ (0 ≤ r ∧ r < a.facts ∧ isF a t x y m r) := by
  have hF0 : σ 101 0 = a.facts ∧ ∀ f : Int, 0 ≤ f → f < a.facts → σ 102 f = 144 * a.ft f + 12 * a.fa f + a.fb f ∧ σ 103 f = a.fm f ∧ σ 104 f = a.fv f := H 0
  have h12 : 0 ≤ a.facts ∧ a.facts ≤ 50 ∧ _ := W 12
  have L : ∀ (F : Nat) (k : Int), 0 ≤ k → k ≤ a.facts → a.facts - k < F → (∀ f : Int, 0 ≤ f → f < k → ¬ isF a t x y m f) → Okk (f_FR_find_2 σ (clq t x y) m F k) fun r => (r = -1 ∧ ∀ f : Int, 0 ≤ f → f < a.facts → ¬ isF a t x y m f) ∨ (0 ≤ r ∧ r < a.facts ∧ isF a t x y m r) := by
    intro F
    induction F with
    | zero => intro k k0 k1 hF; omega
    | succ F ih =>
      intro k k0 k1 hF hno
      rw [f_FR_find_2, hF0.1]
      refine ok_ite (fun g => ok_some (Or.inl ⟨rfl, fun f f0 f1 => hno f f0 (by omega)⟩)) (fun g => ok_grd (by omega) ?_)
      have r := hF0.2 k k0 (by omega)
      have hf := fct W k0 (by omega : k < a.facts)
      have nx : ¬ isF a t x y m k → Okk (grd (r32 (k + 1)) <| f_FR_find_2 σ (clq t x y) m F (k + 1)) fun r => (r = -1 ∧ ∀ f : Int, 0 ≤ f → f < a.facts → ¬ isF a t x y m f) ∨ (0 ≤ r ∧ r < a.facts ∧ isF a t x y m r) := fun hn => ok_grd (by (first | omega | (unfold r32; omega) | (unfold r64; omega) | (simp only [r32, r64] at *; omega))) (ih (k + 1) (by omega) (by omega) (by omega) (fun f f0 f1 => by
        by_cases q : f = k
        · rw [q]; exact hn
        · exact hno f f0 (by omega)))
      rw [r.1, r.2.1]
      refine ok_ite (fun q => nx (fun p => q ?_)) (fun q => ok_grd (by omega) (ok_ite (fun q2 => nx (fun p => q2 p.2.2.2)) (fun q2 => ok_some (Or.inr ⟨k0, by omega, ?_⟩))))
      · unfold clq; rw [p.1, p.2.1, p.2.2.1]
      · have hc : clq (a.ft k) (a.fa k) (a.fb k) = clq t x y := Classical.not_not.mp q
        have hi := clq_i W ⟨hf.1.1, hf.2.1.1, hf.2.2.1.1⟩ h hc
        exact ⟨hi.1, hi.2.1, hi.2.2, Classical.not_not.mp q2⟩
  exact L zFuel 0 (by omega) (by omega) (by unfold zFuel; omega) (fun f f0 f1 => by omega)
theorem drA_n (pt px py fm : Int) : Ab.facts (drA a pt px py fm) = a.facts := by unfold drA Ab.facts; exact sA_j (by omega)
theorem op_fact (H : J σ a n B) (hB : B ≤ 100000) (t x y m v : Int) : OPT σ a n B e (fun code w b => TT a False (fun w b => TKs a b ∧ 0 ≤ w) code w b) (f_L_fact σ e t x y m v) := by
  obtain ⟨W, K, V, I, VV, h1, h2⟩ := id H
  obtain ⟨R, IK, IW, I9⟩ := IC_r I
  have h12 : 0 ≤ a.facts ∧ a.facts ≤ 50 ∧ _ := W 12
  by_cases h : mem4 a t x y m
  · have hc : cin a t x y := ⟨h.1, h.2.1, h.2.2.1⟩
    have m4 := (mea W h.2.2.2.1 h.2.2.2.2).1
    -- the place, if it is one
    by_cases hv : -1000000 ≤ v ∧ v ≤ 1000000
    · by_cases hb : (isP a 0 t ∧ isP a 1 x ∧ isP a 2 y) ∧ a.mk m ≠ 3 ∧ ((∃ f : Int, 0 ≤ f ∧ f < a.facts ∧ isF a t x y m f) ∨ a.facts < 50)
      · obtain ⟨hP, hk, hf⟩ := hb
        have CL : ∀ Q : Option (Int × Nat × Hp) → Prop, True := fun _ => trivial
        by_cases hx : ∃ f : Int, 0 ≤ f ∧ f < a.facts ∧ isF a t x y m f
        · obtain ⟨f, f0, f1, hff⟩ := hx
          have hff' := fct W f0 f1
          have PW := putA_W W K (f := f) hv
          have pf := putA_f (a := a) (f := f) (v := v)
          refine ⟨0, a.facts, putA a f v, ⟨PW.1, PW.2.1, by rw [PW.2.2]; exact h1, by rw [PW.2.2]; omega⟩, (TT_0 (⟨TKs_put, h12.1⟩)), ?_⟩
          · unfold f_L_fact
            refine L_ok PW.1 ?_
            unfold f_C_fact
            refine ok_eqb (nC_y' W R h) ?_
            rw [if_pos rfl]
            refine ok_eqb (nR_y hv) ?_
            rw [if_pos rfl]
            refine ok_eqb (r_S_isPlain W R hc) ?_
            rw [bI_t hP, if_neg (by omega)]
            refine ok_bind (ok_eqb (r_MS_kindOf W R.2.2.2.2.2.1 h.2.2.2.1 h.2.2.2.2) ?_)
            rw [if_neg hk]
            refine ok_some (ok_eqb need1 ?_)
            rw [if_pos rfl]
            refine ok_call (e_FR_find W R.2.2.2.2.2.2 hc) (fun r hr => ?_)
            have er : r = f := by
              rcases hr with hr | hr
              · exact absurd hff (hr.2 f f0 f1)
              · exact isF_u W hr.1 hr.2.1 f0 f1 hr.2.2 hff
            subst er
            rw [if_pos (by omega), if_pos (by omega)]
            refine ok_bind (ok_some (ok_eqb need1 ?_))
            rw [if_pos rfl]
            refine ok_bind (ok_call (c_setNumber W K I f0 f1 hv) ?_)
            rintro s ⟨s1, s2, s3⟩
            have e101 : s.2 101 0 = a.facts := by
              have g : ICF s.2 (putA a r v) := (IC_r s2).1.2.2.2.2.2.2
              have g0 : s.2 101 0 = Ab.facts (putA a r v) ∧ _ := g 0
              rw [g0.1, pf.2.2.2.2.1]
            refine ok_some (ok_some ⟨rfl, e101, fun q q1 q2 => s3 q (by omega), IC_m PW.1 (fun _ _ => rfl) (by omega) s2⟩)
        · have hlt : a.facts < 50 := hf.resolve_left hx
          have N : newF a t x y m v := ⟨hc, hP, ⟨h.2.2.2.1, h.2.2.2.2, hk⟩, hv, hlt, fun f f0 f1 q => hx ⟨f, f0, f1, q⟩⟩
          have Wb := drA_W (ad_W W N) t x y m
          have Kb : WFW (drA (addA a t x y m v) t x y m) := drA_K (WFW_s K ad_FB.2.2.1 ad_FB.1.1) _ _ _ _
          have hh : Ab.hits (drA (addA a t x y m v) t x y m) = a.hits := sA_h.2.trans ad_FB.2.2.2.2.2.2.2
          have hfa : Ab.facts (drA (addA a t x y m v) t x y m) = a.facts + 1 := (drA_n (a := addA a t x y m v) t x y m).trans ad_n
          refine ⟨0, a.facts + 1, drA (addA a t x y m v) t x y m, ⟨Wb, Kb, by rw [hh]; exact h1, by rw [hh]; omega⟩, (TT_0 (⟨TKs_tr TKs_ad TKs_dr, by omega⟩)), ?_⟩
          · unfold f_L_fact
            refine L_ok Wb ?_
            unfold f_C_fact
            refine ok_eqb (nC_y' W R h) ?_
            rw [if_pos rfl]
            refine ok_eqb (nR_y hv) ?_
            rw [if_pos rfl]
            refine ok_eqb (r_S_isPlain W R hc) ?_
            rw [bI_t hP, if_neg (by omega)]
            refine ok_bind (ok_eqb (r_MS_kindOf W R.2.2.2.2.2.1 h.2.2.2.1 h.2.2.2.2) ?_)
            rw [if_neg hk]
            refine ok_some (ok_eqb need1 ?_)
            rw [if_pos rfl]
            refine ok_call (e_FR_find W R.2.2.2.2.2.2 hc) (fun r hr => ?_)
            have er : r = -1 := by
              rcases hr with hr | hr
              · exact hr.1
              · exact absurd ⟨r, hr⟩ hx
            have hF0 : σ 101 0 = a.facts ∧ _ := R.2.2.2.2.2.2 0
            subst er
            rw [if_neg (by omega), hF0.1, if_neg (by omega)]
            refine ok_bind (ok_some (ok_eqb need1 ?_))
            rw [if_pos rfl, if_neg (by omega)]
            refine ok_bind (ok_mono (c_add W K I N) ?_)
            rintro s ⟨s1, s2, s3⟩
            exact ok_some ⟨rfl, s3, fun q q1 q2 => s2 q (by omega), IC_m Wb (fun _ _ => rfl) (by omega) s1⟩
      · refine opt_er H 3 0 (TT_e ⟨by omega, by omega⟩ (fun q => q)) ?_
        · unfold f_L_fact
          refine ok_call (P := fun r => r = (3, 0, σ)) ?_ ?_
          · unfold f_C_fact
            refine ok_eqb (nC_y' W R h) ?_
            rw [if_pos rfl]
            refine ok_eqb (nR_y hv) ?_
            rw [if_pos rfl]
            refine ok_eqb (r_S_isPlain W R hc) ?_
            by_cases hP : isP a 0 t ∧ isP a 1 x ∧ isP a 2 y
            · rw [bI_t hP, if_neg (by omega)]
              refine ok_bind (ok_eqb (r_MS_kindOf W R.2.2.2.2.2.1 h.2.2.2.1 h.2.2.2.2) ?_)
              by_cases hk : a.mk m = 3
              · rw [if_pos hk]
                refine ok_some (ok_eqb need0 ?_)
                rw [if_neg (by omega)]
                exact ok_grd (by omega) (ok_some rfl)
              · rw [if_neg hk]
                refine ok_some (ok_eqb need1 ?_)
                rw [if_pos rfl]
                refine ok_call (e_FR_find W R.2.2.2.2.2.2 hc) (fun r hr => ?_)
                have hF0 : σ 101 0 = a.facts ∧ _ := R.2.2.2.2.2.2 0
                rcases hr with hr | hr
                · have hge : ¬ a.facts < 50 := fun q => hb ⟨hP, hk, Or.inr q⟩
                  rw [hr.1, if_neg (by omega), hF0.1, if_pos (by omega)]
                  refine ok_bind (ok_some (ok_eqb need0 ?_))
                  rw [if_neg (by omega)]
                  exact ok_grd (by omega) (ok_some rfl)
                · exact absurd ⟨hP, hk, Or.inl ⟨r, hr⟩⟩ hb
            · rw [bI_f hP, if_pos rfl]
              refine ok_bind (ok_some (ok_eqb need0 ?_))
              rw [if_neg (by omega)]
              exact ok_grd (by omega) (ok_some rfl)
          · rintro r rfl
            (rw [if_neg (by simp), if_neg (by simp), if_neg (by simp), if_pos rfl]; exact ok_some (LR_er W I (by omega) _ _ (by omega)))
    · refine opt_er H 2 0 (TT_e ⟨by omega, by omega⟩ (fun q => q)) ?_
      · unfold f_L_fact
        refine ok_eqb (v := (2, 0, σ)) ?_ ?_
        · unfold f_C_fact; apply ok_eq
          refine ok_eqb (nC_y' W R h) ?_
          rw [if_pos rfl]
          refine ok_eqb (nR_n hv) ?_
          rw [if_neg (by omega)]
          exact ok_grd (by omega) (ok_some rfl)
        · (rw [if_neg (by simp), if_neg (by simp), if_pos rfl]; exact ok_some (LR_er W I (by omega) _ _ (by omega)))
  · refine opt_er H 1 0 (TT_e ⟨by omega, by omega⟩ (fun q => q)) ?_
    · unfold f_L_fact
      refine ok_eqb (v := (1, 0, σ)) ?_ ?_
      · unfold f_C_fact; apply ok_eq
        refine ok_eqb (nC_n' W R h) ?_
        rw [if_neg (by simp)]
        exact ok_grd (by simp) (ok_some rfl)
      · (rw [if_neg (by simp), if_pos rfl]; exact ok_some (LR_er W I (by omega) _ _ (by omega)))
end

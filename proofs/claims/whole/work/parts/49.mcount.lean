/-! ===== the reference's weights, counts ===== -/
theorem sgn_b {a : Ab} (W : WFA a) {d m : Int} (hd : inD d) (ht : thr a d m) (hp : isP a d m) (h0 : 0 < m) : -1 ≤ a.sign (12 * d + m) ∧ a.sign (12 * d + m) ≤ 1 := by
  have h3 : 0 ≤ a.par (12 * d + m) ∧ a.par (12 * d + m) < m ∧ isP a d (a.par (12 * d + m)) ∧ -1 ≤ a.sign (12 * d + m) ∧ a.sign (12 * d + m) ≤ 1 := W 3 d m hd ht hp h0
  exact h3.2.2.2
theorem mul_1 {x y : Int} (hx : -1 ≤ x ∧ x ≤ 1) (hy : -1 ≤ y ∧ y ≤ 1) : -1 ≤ x * y ∧ x * y ≤ 1 := by
  have e : x = -1 ∨ x = 0 ∨ x = 1 := by omega
  rcases e with rfl | rfl | rfl <;> omega
theorem e_M_weightTo_6 {σ : Hp} {a : Ab} (W : WFA a) (V : Vw σ a) {d top u : Int} (hd : inD d) (h0 : 0 ≤ top) : ∀ (F : Nat) (w k : Int), thr a d k → isP a d k → k < F → -1 ≤ w ∧ w ≤ 1 → Okk (f_M_weightTo_6 σ d top u F w k) fun r => (wt a d k top u = 2 ∧ r.2 ≠ top) ∨ (wt a d k top u ≠ 2 ∧ r.2 = top ∧ r.1 = w * wt a d k top u) := by
  have hd' := inD_b hd
  intro F
  induction F with
  | zero => intro w k ht hp hF; have := ht.1; omega
  | succ F ih =>
    intro w k ht hp hF hw
    have h12 := thr12 W hd ht
    rw [f_M_weightTo_6]
    refine ok_ite (fun h => ok_some ?_) (fun h => ?_)
    · by_cases e : k = top
      · subst e; rw [wt_e]; exact Or.inr ⟨by omega, rfl, by show w = w * 1; omega⟩
      · rw [wt_l (by omega)]; exact Or.inl ⟨rfl, e⟩
    · have hb := upw_b W hd ht hp (by omega) u
      have hs := sgn_b W hd ht hp (by omega)
      rw [w_sign V]
      refine ok_grd (by (first | omega | (unfold r32; omega) | (unfold r64; omega) | (simp only [r32, r64] at *; omega))) (ok_grd (by (first | omega | (unfold r32; omega) | (unfold r64; omega) | (simp only [r32, r64] at *; omega))) (ok_grd (by omega) (ok_grd ?_ ?_)))
      · have := mul_1 hw hs; (first | omega | (unfold r32; omega) | (unfold r64; omega) | (simp only [r32, r64] at *; omega))
      · refine ok_call (P := fun r => r = upw a d k u) ?_ ?_
        · unfold upw
          by_cases hz : d = 0
          · rw [if_neg (by intro g; exact g hz), if_pos hz, w_par V]
            exact ok_grd (by omega) (ok_some rfl)
          · rw [if_pos hz, if_neg hz]
            exact ok_eqb (e_M_parent W V u hd h12) (ok_some rfl)
        · rintro r rfl
          refine ok_mono (ih (w * a.sign (12 * d + k)) (upw a d k u) (thr_lt ht hb.1 (by omega)) hb.2.2 (by omega) (mul_1 hw hs)) (fun r hr => ?_)
          rw [wt_s W hd ht hp h0 (by omega)]
          rcases hr with hr | hr
          · rw [if_pos hr.1]; exact Or.inl ⟨rfl, hr.2⟩
          · have hwr := wt_r W hd (u := u) h0 _ (upw a d k u) (thr_lt ht hb.1 (by omega)) hb.2.2 (Nat.le_refl _)
            have hm := mul_1 (x := wt a d (upw a d k u) top u) (by omega) hs
            rw [if_neg hr.1]
            refine Or.inr ⟨by omega, hr.2.1, ?_⟩
            rw [hr.2.2, Int.mul_assoc, Int.mul_comm (a.sign (12 * d + k))]
theorem e_M_weightTo {σ : Hp} {a : Ab} (W : WFA a) (V : Vw σ a) {d m top u : Int} (hd : inD d) (h0 : 0 ≤ top) (ht : thr a d m) (hp : isP a d m) : f_M_weightTo σ d m top u = some (wt a d m top u) := by
  have h12 := thr12 W hd ht
  unfold f_M_weightTo; apply ok_eq
  refine ok_call (e_M_weightTo_6 W V (u := u) hd h0 zFuel 1 m ht hp (by unfold zFuel; omega) (by omega)) (fun r hr => ?_)
  rcases hr with hr | hr
  · rw [if_pos hr.2, hr.1]; exact ok_bind (ok_some (ok_some rfl))
  · rw [if_neg (by intro g; exact g hr.2.1), hr.2.2]
    exact ok_bind (ok_some (ok_some (by omega)))
theorem e_M_weight {σ : Hp} {a : Ab} (W : WFA a) (V : Vw σ a) {d m o u : Int} (hd : inD d) (ht : thr a d m) (hp : isP a d m) (ho : thr a d o) : f_M_weight σ d m o u = some (wgt a d m o u) := by
  have hd' := inD_b hd
  have h12 := thr12 W hd ho
  have h4 := (show ∀ d m : Int, inD d → thr a d m → a.kind (12 * d + m) = 1 → 1 ≤ a.set (12 * d + m) ∧ a.set (12 * d + m) ≤ 4095 ∧ ∀ k : Int, 0 ≤ k → k < 12 → bitP (a.set (12 * d + m)) k → k < m ∧ isP a d k from W 4) d o hd ho
  have L : ∀ (F k : Nat), (k : Int) ≤ 12 → 12 - k < F → a.kind (12 * d + o) = 1 → Okk (f_M_weight_34 σ d m o u F (wbF a d m o u k) k) fun r => r.1 = wbF a d m o u 12 := by
    intro F
    induction F with
    | zero => intro k hk hF; omega
    | succ F ih =>
      intro k hk hF h1
      have hs := h4 h1
      rw [f_M_weight_34]
      refine ok_ite (fun h => ok_some (by rw [show k = 12 by omega])) (fun h => ?_)
      rw [w_kind V, w_set V]
      refine ok_grd (by omega) ?_
      rw [if_neg (by intro g; exact g h1)]
      refine ok_ite (fun h2 => ok_some ?_) (fun h2 => ?_)
      · have := wbF_keep h2 (12 - k)
        rw [show k + (12 - k) = 12 by omega] at this
        exact this.symm
      · have h2' : wbF a d m o u k = 2 := by omega
        have e := sb_1 (by omega : 0 ≤ a.set (12 * d + o)) (by omega) (by omega : (0 : Int) ≤ k) (by omega : (k : Int) < 13)
        have es : wbF a d m o u (k + 1) = if bitP (a.set (12 * d + o)) k then wt a d m k u else 2 := by
          show (if wbF a d m o u k ≠ 2 then wbF a d m o u k else _) = _
          rw [if_neg h2]
        refine ok_grd (by omega) (ok_call (P := fun r => r = wbF a d m o u (k + 1)) ?_ ?_)
        · rw [es]
          refine ok_ite (fun g => ok_some ?_) (fun g => ?_)
          · rw [if_neg (fun q => g (e.mpr q))]
          · rw [if_pos (e.mp (by omega))]
            exact ok_eqb (e_M_weightTo W V hd (by omega) ht hp) (ok_some rfl)
        · rintro r rfl
          refine ok_grd (by (first | omega | (unfold r32; omega) | (unfold r64; omega) | (simp only [r32, r64] at *; omega))) ?_
          have := ih (k + 1) (by omega) (by omega) h1
          rw [show ((k + 1 : Nat) : Int) = (k : Int) + 1 by omega] at this
          exact this
  unfold f_M_weight wgt; apply ok_eq
  rw [w_kind V]
  refine ok_grd (by (first | omega | (unfold r32; omega) | (unfold r64; omega) | (simp only [r32, r64] at *; omega))) (ok_grd (by (first | omega | (unfold r32; omega) | (unfold r64; omega) | (simp only [r32, r64] at *; omega))) (ok_grd (by omega) (ok_ite (fun h => ?_) (fun h => ?_))))
  · rw [if_neg h]
    by_cases h1 : a.kind (12 * d + o) = 1
    · rw [if_pos h1]
      exact ok_call (L zFuel 0 (by omega) (by unfold zFuel; omega) h1) (fun r hr => ok_some hr)
    · rw [if_neg h1]
      have e : f_M_weight_34 σ d m o u zFuel 2 0 = some (2, 0) := by
        show f_M_weight_34 σ d m o u (999999 + 1) 2 0 = _
        rw [f_M_weight_34, w_kind V, if_neg (by omega)]
        apply ok_eq
        refine ok_grd (by omega) ?_
        rw [if_pos h1]; exact ok_some rfl
      exact ok_eqb e (ok_some rfl)
  · rw [if_pos (by omega)]
    exact ok_eqb (e_M_weightTo W V hd ho.1 ht hp) (ok_some rfl)
theorem wbF_r {a : Ab} (W : WFA a) {d m o u : Int} (hd : inD d) (ht : thr a d m) (hp : isP a d m) : ∀ k : Nat, -1 ≤ wbF a d m o u k ∧ wbF a d m o u k ≤ 2
  | 0 => by unfold wbF; omega
  | k + 1 => by
    have ih := wbF_r W (o := o) (u := u) hd ht hp k
    have := wt_r W hd (top := (k : Int)) (u := u) (by omega) _ m ht hp (Nat.le_refl _)
    unfold wbF
    by_cases h : wbF a d m o u k ≠ 2
    · rw [if_pos h]; exact ih
    · rw [if_neg h]
      by_cases h2 : bitP (a.set (12 * d + o)) k
      · rw [if_pos h2]; exact this
      · rw [if_neg h2]; omega
theorem wgt_r {a : Ab} (W : WFA a) {d m o u : Int} (hd : inD d) (ht : thr a d m) (hp : isP a d m) (ho : 0 ≤ o) : -1 ≤ wgt a d m o u ∧ wgt a d m o u ≤ 2 := by
  unfold wgt
  by_cases h : a.kind (12 * d + o) = 0
  · rw [if_pos h]; exact wt_r W hd ho _ m ht hp (Nat.le_refl _)
  · rw [if_neg h]
    by_cases h1 : a.kind (12 * d + o) = 1
    · rw [if_pos h1]; exact wbF_r W hd ht hp 12
    · rw [if_neg h1]; omega
/-- the facts are where they may be -/
theorem fct {a : Ab} (W : WFA a) {f : Int} (h0 : 0 ≤ f) (h1 : f < a.facts) : (thr a 0 (a.ft f) ∧ isP a 0 (a.ft f)) ∧ (thr a 1 (a.fa f) ∧ isP a 1 (a.fa f)) ∧ (thr a 2 (a.fb f) ∧ isP a 2 (a.fb f)) ∧ 0 ≤ a.fm f ∧ a.fm f < a.measures ∧ a.mk (a.fm f) ≠ 3 ∧ -1000000 ≤ a.fv f ∧ a.fv f ≤ 1000000 ∧ f < 50 := by
  have h12 : 0 ≤ a.facts ∧ a.facts ≤ 50 ∧ ∀ f : Int, 0 ≤ f → f < a.facts → thr a 0 (a.ft f) ∧ isP a 0 (a.ft f) ∧ thr a 1 (a.fa f) ∧ isP a 1 (a.fa f) ∧ thr a 2 (a.fb f) ∧ isP a 2 (a.fb f) ∧ 0 ≤ a.fm f ∧ a.fm f < a.measures ∧ a.mk (a.fm f) ≠ 3 ∧ -1000000 ≤ a.fv f ∧ a.fv f ≤ 1000000 := W 12
  obtain ⟨g1, g2, g3, g4, g5, g6, g7, g8, g9, g10, g11⟩ := h12.2.2 f h0 h1
  exact ⟨⟨g1, g2⟩, ⟨g3, g4⟩, ⟨g5, g6⟩, g7, g8, g9, g10, g11, by omega⟩
theorem iD0 : inD 0 := Or.inl rfl
theorem iD1 : inD 1 := Or.inr (Or.inl rfl)
theorem iD2 : inD 2 := Or.inr (Or.inr rfl)
theorem cnt_r {a : Ab} (W : WFA a) {pt px py t x y : Int} (h0 : thr a 0 pt ∧ isP a 0 pt) (h1 : thr a 1 px ∧ isP a 1 px) (h2 : thr a 2 py ∧ isP a 2 py) (ht : 0 ≤ t) (hx : 0 ≤ x) (hy : 0 ≤ y) : -1 ≤ cnt a pt px py t x y ∧ cnt a pt px py t x y ≤ 1 := by
  have r0 := wgt_r W (u := until_ a pt) iD0 h0.1 h0.2 ht
  have r1 := wgt_r W (u := until_ a pt) iD1 h1.1 h1.2 hx
  have r2 := wgt_r W (u := until_ a pt) iD2 h2.1 h2.2 hy
  unfold cnt
  by_cases h : wgt a 0 pt t (until_ a pt) = 2 ∨ wgt a 1 px x (until_ a pt) = 2 ∨ wgt a 2 py y (until_ a pt) = 2 ∨ (a.leave ≠ 0 ∧ ¬ (seeP a 0 pt ∧ seeP a 1 px ∧ seeP a 2 py))
  · rw [if_pos h]; omega
  · rw [if_neg h]
    exact mul_1 (mul_1 (by omega) (by omega)) (by omega)
theorem e_M_counts {σ : Hp} {a : Ab} (W : WFA a) (V : Vw σ a) {f t x y : Int} (h0 : 0 ≤ f) (h1 : f < a.facts) (ht : thr a 0 t) (hx : thr a 1 x) (hy : thr a 2 y) : f_M_counts σ f t x y = some (cnt a (a.ft f) (a.fa f) (a.fb f) t x y) := by
  obtain ⟨f0, f1, f2, f3, f4, f5, f6, f7, f8⟩ := fct W h0 h1
  have t12 := thr12 W iD0 f0.1
  have r0 := wgt_r W (u := until_ a (a.ft f)) iD0 f0.1 f0.2 ht.1
  have r1 := wgt_r W (u := until_ a (a.ft f)) iD1 f1.1 f1.2 hx.1
  have r2 := wgt_r W (u := until_ a (a.ft f)) iD2 f2.1 f2.2 hy.1
  unfold f_M_counts; apply ok_eq
  simp only [w_asNow V, w_leave V, w_ft V, w_fa V, w_fb V, w_place V]
  refine ok_call (P := fun r => r = until_ a (a.ft f)) ?_ ?_
  · unfold until_
    by_cases h : a.asNow = 0
    · rw [if_pos h, if_pos h]; exact ok_grd (by omega) (ok_grd t12 (ok_some rfl))
    · rw [if_neg h, if_neg h]; exact ok_some rfl
  · rintro r rfl
    refine ok_grd (by omega) (ok_eqb (e_M_weight W V iD0 f0.1 f0.2 ht) ?_)
    refine ok_grd (by omega) (ok_eqb (e_M_weight W V iD1 f1.1 f1.2 hx) ?_)
    refine ok_grd (by omega) (ok_eqb (e_M_weight W V iD2 f2.1 f2.2 hy) ?_)
    refine ok_call (P := fun r => r = bI (a.leave ≠ 0 ∧ ¬ (seeP a 0 (a.ft f) ∧ seeP a 1 (a.fa f) ∧ seeP a 2 (a.fb f)))) ?_ ?_
    · refine ok_ite (fun h => ok_some (bI_f (fun g => g.1 h)).symm) (fun h => ?_)
      refine ok_grd (by omega) (ok_eqb (e_M_seen W V iD0 f0.1) ?_)
      by_cases s0 : seeP a 0 (a.ft f)
      · rw [bI_t s0, if_neg (by omega)]
        refine ok_grd (by omega) (ok_eqb (e_M_seen W V iD1 f1.1) ?_)
        by_cases s1 : seeP a 1 (a.fa f)
        · rw [bI_t s1, if_neg (by omega)]
          refine ok_grd (by omega) (ok_eqb (e_M_seen W V iD2 f2.1) ?_)
          by_cases s2 : seeP a 2 (a.fb f)
          · rw [bI_t s2, if_pos (by omega)]
            exact ok_some (bI_f (fun g => g.2 ⟨s0, s1, s2⟩)).symm
          · rw [bI_f s2, if_neg (by omega)]
            exact ok_some (bI_t ⟨h, fun g => s2 g.2.2⟩).symm
        · rw [bI_f s1, if_pos rfl]
          exact ok_some (bI_t ⟨h, fun g => s1 g.2.1⟩).symm
      · rw [bI_f s0, if_pos rfl]
        exact ok_some (bI_t ⟨h, fun g => s0 g.1⟩).symm
    · rintro r rfl
      unfold cnt
      by_cases h : wgt a 0 (a.ft f) t (until_ a (a.ft f)) = 2 ∨ wgt a 1 (a.fa f) x (until_ a (a.ft f)) = 2 ∨ wgt a 2 (a.fb f) y (until_ a (a.ft f)) = 2 ∨ (a.leave ≠ 0 ∧ ¬ (seeP a 0 (a.ft f) ∧ seeP a 1 (a.fa f) ∧ seeP a 2 (a.fb f)))
      · rw [if_pos h]
        refine ok_bind (ok_ite (fun _ => ok_some (ok_some rfl)) (fun g0 => ok_ite (fun _ => ok_some (ok_some rfl)) (fun g1 => ok_ite (fun _ => ok_some (ok_some rfl)) (fun g2 => ?_))))
        rcases h with h | h | h | h
        · exact absurd h g0
        · exact absurd h g1
        · exact absurd h g2
        · rw [bI_t h, if_neg (by omega)]; exact ok_some (ok_some rfl)
      · have hm := mul_1 (x := wgt a 0 (a.ft f) t (until_ a (a.ft f))) (y := wgt a 1 (a.fa f) x (until_ a (a.ft f))) (by omega) (by omega)
        have hm2 := mul_1 (y := wgt a 2 (a.fb f) y (until_ a (a.ft f))) hm (by omega)
        rw [if_neg h, if_neg (fun g => h (Or.inl g)), if_neg (fun g => h (Or.inr (Or.inl g))), if_neg (fun g => h (Or.inr (Or.inr (Or.inl g)))), bI_f (fun g => h (Or.inr (Or.inr (Or.inr g)))), if_pos rfl]
        exact ok_bind (ok_grd (by (first | omega | (unfold r32; omega) | (unfold r64; omega) | (simp only [r32, r64] at *; omega))) (ok_grd (by (first | omega | (unfold r32; omega) | (unfold r64; omega) | (simp only [r32, r64] at *; omega))) (ok_some (ok_some rfl))))
theorem mea {a : Ab} (W : WFA a) {m : Int} (h0 : 0 ≤ m) (h1 : m < a.measures) : m < 4 ∧ 0 ≤ a.mk m ∧ a.mk m ≤ 3 ∧ (a.mk m = 3 → 0 ≤ a.ma m ∧ a.ma m < m ∧ 0 ≤ a.mb m ∧ a.mb m < m) := by
  have h10 : 0 ≤ a.measures ∧ a.measures ≤ 4 ∧ ∀ m : Int, 0 ≤ m → m < a.measures → 0 ≤ a.mk m ∧ a.mk m ≤ 3 ∧ (a.mk m = 3 → 0 ≤ a.ma m ∧ a.ma m < m ∧ 0 ≤ a.mb m ∧ a.mb m < m) := W 10
  have := h10.2.2 m h0 h1
  exact ⟨by omega, this⟩
theorem e_M_isNothing {σ : Hp} {a : Ab} (W : WFA a) (V : Vw σ a) {t x y m : Int} (ht : thr a 0 t) (hx : thr a 1 x) (hy : thr a 2 y) (h0 : 0 ≤ m) (h1 : m < a.measures) : f_M_isNothing σ t x y m = some (bI (nth a m t x y)) := by
  have hm := (mea W h0 h1).1
  unfold f_M_isNothing nth; apply ok_eq
  simp only [w_md V]
  refine ok_eqb (e_M_isPlain V iD0 (thr12 W iD0 ht)) (ok_call (P := fun r => r = bI (isP a 0 t ∧ dep a 0 t < a.md (3 * m))) ?_ ?_)
  · by_cases p : isP a 0 t
    · rw [bI_t p, if_neg (by omega)]
      refine ok_eqb (e_M_depth W V iD0 ht p) (ok_grd (by (first | omega | (unfold r32; omega) | (unfold r64; omega) | (simp only [r32, r64] at *; omega))) (ok_grd (by omega) (ok_ite (fun g => ok_some (bI_f (fun q => by omega)).symm) (fun g => ok_some (bI_t ⟨p, by omega⟩).symm))))
    · rw [bI_f p, if_pos rfl]; exact ok_some (bI_f (fun g => p g.1)).symm
  · rintro r rfl
    refine ok_eqb (e_M_isPlain V iD1 (thr12 W iD1 hx)) (ok_call (P := fun r => r = bI (isP a 1 x ∧ dep a 1 x < a.md (3 * m + 1))) ?_ ?_)
    · by_cases p : isP a 1 x
      · rw [bI_t p, if_neg (by omega)]
        refine ok_eqb (e_M_depth W V iD1 hx p) (ok_grd (by (first | omega | (unfold r32; omega) | (unfold r64; omega) | (simp only [r32, r64] at *; omega))) (ok_grd (by (first | omega | (unfold r32; omega) | (unfold r64; omega) | (simp only [r32, r64] at *; omega))) (ok_grd (by omega) (ok_ite (fun g => ok_some (bI_f (fun q => by omega)).symm) (fun g => ok_some (bI_t ⟨p, by omega⟩).symm)))))
      · rw [bI_f p, if_pos rfl]; exact ok_some (bI_f (fun g => p g.1)).symm
    · rintro r rfl
      by_cases n0 : isP a 0 t ∧ dep a 0 t < a.md (3 * m)
      · rw [bI_t n0, if_pos (by omega)]
        exact ok_bind (ok_some (ok_grd (by omega) (ok_some (bI_t (Or.inl n0)).symm)))
      · rw [bI_f n0, if_neg (by omega)]
        by_cases n1 : isP a 1 x ∧ dep a 1 x < a.md (3 * m + 1)
        · rw [bI_t n1, if_pos (by omega)]
          exact ok_bind (ok_some (ok_grd (by omega) (ok_some (bI_t (Or.inr (Or.inl n1))).symm)))
        · rw [bI_f n1, if_neg (by omega)]
          refine ok_bind (ok_eqb (e_M_isPlain V iD2 (thr12 W iD2 hy)) ?_)
          by_cases p : isP a 2 y
          · rw [bI_t p, if_neg (by omega)]
            refine ok_eqb (e_M_depth W V iD2 hy p) (ok_grd (by (first | omega | (unfold r32; omega) | (unfold r64; omega) | (simp only [r32, r64] at *; omega))) (ok_grd (by (first | omega | (unfold r32; omega) | (unfold r64; omega) | (simp only [r32, r64] at *; omega))) (ok_grd (by omega) (ok_ite (fun g => ok_some (ok_grd (by omega) (ok_some (bI_f (fun q => ?_)).symm))) (fun g => ok_some (ok_grd (by omega) (ok_some (bI_t (Or.inr (Or.inr ⟨p, by omega⟩))).symm)))))))
            rcases q with q | q | q
            · exact n0 q
            · exact n1 q
            · omega
          · rw [bI_f p, if_pos rfl]
            refine ok_some (ok_grd (by omega) (ok_some (bI_f (fun q => ?_)).symm))
            rcases q with q | q | q
            · exact n0 q
            · exact n1 q
            · exact p q.1

/-! ===== the reference's formulas and values ===== -/
theorem vch_b (b : Int) (σ : Hp) (v : Int) : vch b σ (hset σ 129 46 v) := ⟨fun q q1 _ _ _ => hset_ne q1, fun j hj => hs_nj hj, fun j _ => by rw [hset_ne (by omega)]⟩
theorem vch_m (b : Int) (σ : Hp) (i j v w : Int) : vch b σ (hset (hset σ 161 i v) 160 j w) := ⟨fun q _ h1 h2 _ => by rw [hset_ne h1, hset_ne h2], fun j _ => by rw [hset_ne (by omega), hset_ne (by omega)], fun j _ => by rw [hset_ne (by omega), hset_ne (by omega)]⟩
theorem e_M_formula_45 {a : Ab} (W : WFA a) (K : WFW a) {m : Int} (m0 : 0 ≤ m) (m1 : m < a.measures) {V : Hp → Int → Int → Int → Int → Int → Option (Int × Hp)} {d t x y : Int} (hV : mVok a m V (crk a t x y)) (hd : inD d) (h : cin a t x y) (hk : a.kind (12 * d + crd d t x y) = 2) {b : Int} (b0 : 0 ≤ b) (b1 : b + 10 * (crk a t x y + 1) ≤ 3690) {σ0 : Hp} : ∀ (F k : Nat) (σ : Hp), (k : Int) ≤ a.len (12 * d + crd d t x y) → a.len (12 * d + crd d t x y) - k < F → MS σ a → vch b σ0 σ → stk (σ 166) b (frmF (val a m) a d t x y (12 * d + crd d t x y) k) → Okk (f_M_formula_45 V d t x y m 0 (crd d t x y) F (b + (frmF (val a m) a d t x y (12 * d + crd d t x y) k).length) (10 * (12 * d + crd d t x y) + k) σ) fun r => MS r.2.2 a ∧ vch b σ0 r.2.2 ∧ stk (r.2.2 166) b (frmF (val a m) a d t x y (12 * d + crd d t x y) (a.len (12 * d + crd d t x y)).toNat) := by
  have hw := wds K hd (crd_t hd h) hk
  have hd' := inD_b hd
  have c12 := thr12 W hd (crd_t hd h)
  have hck := crk_b W h
  intro F
  induction F with
  | zero => intro k σ hk1 hF; omega
  | succ F ih =>
    intro k σ hk1 hF M hv hs
    have hl10 := hw.2.1.2.1
    rw [f_M_formula_45, w_len M.1]
    refine ok_grd (by (first | omega | (unfold r32; omega) | (unfold r64; omega) | (simp only [r32, r64] at *; omega))) (ok_grd (by omega) (ok_grd (by (first | omega | (unfold r32; omega) | (unfold r64; omega) | (simp only [r32, r64] at *; omega))) (ok_ite (fun g => ok_some ⟨M, hv, by rw [show (a.len (12 * d + crd d t x y)).toNat = k by omega]; exact hs⟩) (fun g => ?_))))
    have hwk := hw.2.1.2.2 k (by omega)
    have hlow := hw.2.2.2 k (by omega) (by omega)
    have hok := okl_frmF (v := val a m) W K hd h hk (fun t' x' y' h' _ => okv_val W K m0 m1 h') k (by omega)
    have hlen : (((frmF (val a m) a d t x y (12 * d + crd d t x y) k).length : Nat) : Int) ≤ k := by
      have : ∀ j : Nat, pilF a (12 * d + crd d t x y) j ≤ j := by
        intro j
        induction j with
        | zero => exact Int.le_refl _
        | succ j ihj =>
          show (if _ then _ else _) ≤ _
          by_cases q : a.what (10 * (12 * d + crd d t x y) + j) < 3
          · rw [if_pos q]; omega
          · rw [if_neg q]; omega
      rw [hok.2]; exact this k
    have hb10 : b + (frmF (val a m) a d t x y (12 * d + crd d t x y) k).length + 10 * crk a t x y ≤ 3690 := by omega
    refine ok_grd (by omega) ?_
    have ef : frmF (val a m) a d t x y (12 * d + crd d t x y) (k + 1) = wrdV (val a m) a d t x y (10 * (12 * d + crd d t x y) + k) (frmF (val a m) a d t x y (12 * d + crd d t x y) k) := rfl
    have M' : MS (hset σ 129 46 (b + (frmF (val a m) a d t x y (12 * d + crd d t x y) k).length)) a := MS_b M _
    have V' : Vw (hset σ 129 46 (b + (frmF (val a m) a d t x y (12 * d + crd d t x y) k).length)) a := M'.1
    have v' : vch b σ0 (hset σ 129 46 (b + (frmF (val a m) a d t x y (12 * d + crd d t x y) k).length)) := vch_t hv ⟨fun q q1 _ _ _ => hset_ne q1, fun j hj => hs_nj hj, fun j _ => by rw [hset_ne (by omega)]⟩ (Int.le_refl _)
    have e46 : (hset σ 129 46 (b + (frmF (val a m) a d t x y (12 * d + crd d t x y) k).length)) 129 46 = b + (frmF (val a m) a d t x y (12 * d + crd d t x y) k).length := hs_eq
    have e166 : (hset σ 129 46 (b + (frmF (val a m) a d t x y (12 * d + crd d t x y) k).length)) 166 = σ 166 := hset_ne (by omega)
    have hst : ∀ (p v : Int) (σ' : Hp), MS σ' a → vch b σ0 σ' → b ≤ p → p < 3690 → (∀ r, frmF (val a m) a d t x y (12 * d + crd d t x y) (k + 1) = v :: r → p = b + r.length ∧ stk (σ' 166) b r) → (∃ r, frmF (val a m) a d t x y (12 * d + crd d t x y) (k + 1) = v :: r) → Okk (grd (0 ≤ p ∧ p < 3700) <| grd (r32 (p + 1)) <| grd (r32 (10 * (12 * d + crd d t x y) + k + 1)) <| f_M_formula_45 V d t x y m 0 (crd d t x y) F (p + 1) (10 * (12 * d + crd d t x y) + k + 1) (hset σ' 166 p v)) fun r => MS r.2.2 a ∧ vch b σ0 r.2.2 ∧ stk (r.2.2 166) b (frmF (val a m) a d t x y (12 * d + crd d t x y) (a.len (12 * d + crd d t x y)).toNat) := by
      intro p v σ' q1 q2 q3 q4 q5 q6
      obtain ⟨r, er⟩ := q6
      have hr := q5 r er
      refine ok_grd (by omega) (ok_grd (by (first | omega | (unfold r32; omega) | (unfold r64; omega) | (simp only [r32, r64] at *; omega))) (ok_grd (by (first | omega | (unfold r32; omega) | (unfold r64; omega) | (simp only [r32, r64] at *; omega))) ?_))
      have := ih (k + 1) (hset σ' 166 p v) (by omega) (by omega) (MS_p q1 _ _) (vch_t q2 ⟨fun q _ _ _ q1 => hset_ne q1, fun j _ => by rw [hset_ne (by omega)], fun j hj => hs_nj (by omega)⟩ (Int.le_refl _)) ?_
      · rw [er, List.length_cons, show b + ((r.length + 1 : Nat) : Int) = p + 1 by omega, show 10 * (12 * d + crd d t x y) + ((k + 1 : Nat) : Int) = 10 * (12 * d + crd d t x y) + k + 1 by omega] at this
        exact this
      · rw [er]
        refine ⟨by rw [← hr.1]; exact hs_eq, stk_c r (fun j j0 j1 => hs_nj (by omega)) hr.2⟩
    rw [w_what M.1]
    have e0' : ∀ v q r, frmF (val a m) a d t x y (12 * d + crd d t x y) (k + 1) = q :: frmF (val a m) a d t x y (12 * d + crd d t x y) k → frmF (val a m) a d t x y (12 * d + crd d t x y) (k + 1) = v :: r → r = frmF (val a m) a d t x y (12 * d + crd d t x y) k := by
      intro v q r h1 h2
      rw [h1] at h2
      injection h2 with h3 h4
      exact h4.symm
    by_cases e0 : a.what (10 * (12 * d + crd d t x y) + k) = 0
    · have eq1 : frmF (val a m) a d t x y (12 * d + crd d t x y) (k + 1) = a.one (10 * (12 * d + crd d t x y) + k) :: frmF (val a m) a d t x y (12 * d + crd d t x y) k := by rw [ef]; unfold wrdV; rw [if_pos e0]
      rw [if_neg (by intro q; exact q e0)]
      refine ok_bind (ok_grd (by omega) (ok_some ?_))
      rw [w_one V']
      exact hst (b + ((frmF (val a m) a d t x y (12 * d + crd d t x y) k).length : Nat)) (a.one (10 * (12 * d + crd d t x y) + k)) (hset σ 129 46 (b + ((frmF (val a m) a d t x y (12 * d + crd d t x y) k).length : Nat))) M' v' (by omega) (by omega) (fun r hr => by rw [e0' _ _ r eq1 hr, e166]; exact ⟨rfl, hs⟩) ⟨_, eq1⟩
    · rw [if_pos e0]
      by_cases e1 : a.what (10 * (12 * d + crd d t x y) + k) = 1
      · have eq1 : frmF (val a m) a d t x y (12 * d + crd d t x y) (k + 1) = lokV (val a m) a d (a.one (10 * (12 * d + crd d t x y) + k)) (a.two (10 * (12 * d + crd d t x y) + k)) t x y :: frmF (val a m) a d t x y (12 * d + crd d t x y) k := by rw [ef]; unfold wrdV; rw [if_neg e0, if_pos e1]
        rw [if_neg (by intro q; exact q e1)]
        have h2 := hwk.2.2.2.2.2 e1
        have h1 := hwk.2.2.2.2.1 (Or.inl e1)
        refine ok_bind (ok_grd (by omega) (ok_grd (by omega) ?_))
        rw [w_one V', w_two V']
        refine ok_call (e_M_look W K m0 m1 hV hd h hk M' (by rw [e46]; omega) (by rw [e46]; omega) h1.1 (hlow (Or.inl e1)) h2.1 h2.2) ?_
        rintro r ⟨r1, r2, r3, r4⟩
        rw [e46] at r3
        refine ok_some ?_
        rw [r1]
        exact hst (b + ((frmF (val a m) a d t x y (12 * d + crd d t x y) k).length : Nat)) (lokV (val a m) a d (a.one (10 * (12 * d + crd d t x y) + k)) (a.two (10 * (12 * d + crd d t x y) + k)) t x y) r.2 r2 (vch_t v' r3 (by omega)) (by omega) (by omega) (fun r hr => by
          rw [e0' _ _ r eq1 hr]
          exact ⟨rfl, stk_c _ (fun j j0 j1 => by rw [r3.2.2 j (by omega), e166]) hs⟩) ⟨_, eq1⟩
      · rw [if_pos e1]
        by_cases e2 : a.what (10 * (12 * d + crd d t x y) + k) = 2
        · have eq1 : frmF (val a m) a d t x y (12 * d + crd d t x y) (k + 1) = datV (val a m) a d (a.one (10 * (12 * d + crd d t x y) + k)) t x y :: frmF (val a m) a d t x y (12 * d + crd d t x y) k := by rw [ef]; unfold wrdV; rw [if_neg e0, if_neg e1, if_pos e2]
          rw [if_neg (by intro q; exact q e2)]
          have h1 := hwk.2.2.2.2.1 (Or.inr e2)
          refine ok_bind (ok_grd (by omega) ?_)
          rw [w_one V']
          refine ok_call (e_M_date W K m0 m1 hV hd h hk M' (by rw [e46]; omega) (by rw [e46]; omega) h1.1 (hlow (Or.inr e2))) ?_
          rintro r ⟨r1, r2, r3, r4⟩
          rw [e46] at r3
          refine ok_some ?_
          rw [r1]
          exact hst (b + ((frmF (val a m) a d t x y (12 * d + crd d t x y) k).length : Nat)) (datV (val a m) a d (a.one (10 * (12 * d + crd d t x y) + k)) t x y) r.2 r2 (vch_t v' r3 (by omega)) (by omega) (by omega) (fun r hr => by
            rw [e0' _ _ r eq1 hr]
            exact ⟨rfl, stk_c _ (fun j j0 j1 => by rw [r3.2.2 j (by omega), e166]) hs⟩) ⟨_, eq1⟩
        · rw [if_pos e2]
          have h2 := hwk.2.2.1 (by omega)
          rw [← hok.2] at h2
          generalize frmF (val a m) a d t x y (12 * d + crd d t x y) k = st at *
          match st, hs, hok, hlen, h2, ef with
          | [], _, _, _, h2, _ => simp at h2
          | [q], _, _, _, h2, _ => simp at h2
          | q :: p :: r, hs, hok, hlen, h2, ef =>
            have eq0 := ef.trans (show wrdV (val a m) a d t x y (10 * (12 * d + crd d t x y) + k) (q :: p :: r) = jnd (a.what (10 * (12 * d + crd d t x y) + k)) p q :: r by
              unfold wrdV
              (rw [if_neg e0, if_neg e1, if_neg e2]) <;> rfl)
            simp only [List.length_cons] at *
            have hs1 : σ 166 (b + ((r.length + 1 : Nat) : Int)) = q := hs.1
            have hs2 : σ 166 (b + (r.length : Int)) = p := hs.2.1
            have hs3 : stk (σ 166) b r := hs.2.2
            have a1 : b + ((r.length + 1 + 1 : Nat) : Int) + (-2) = b + (r.length : Int) := by omega
            have a2 : b + (r.length : Int) + 1 = b + ((r.length + 1 : Nat) : Int) := by omega
            rw [a1, a2, e166, hs1, hs2]
            refine ok_bind (ok_grd (by (first | omega | (unfold r32; omega) | (unfold r64; omega) | (simp only [r32, r64] at *; omega))) (ok_grd (by omega) (ok_grd (by (first | omega | (unfold r32; omega) | (unfold r64; omega) | (simp only [r32, r64] at *; omega))) (ok_grd (by omega) ?_))))
            have oq : okv q := hok.1 q (List.mem_cons_self ..)
            have op : okv p := hok.1 p (List.mem_cons_of_mem _ (List.mem_cons_self ..))
            refine ok_eqb (e_M_joined _ (by omega) op oq) (ok_some ?_)
            exact hst (b + (r.length : Nat)) (jnd (a.what (10 * (12 * d + crd d t x y) + k)) p q) (hset σ 129 46 (b + ((r.length + 1 + 1 : Nat) : Int))) M' v' (by omega) (by omega) (fun r' hr => by
              have := eq0.symm.trans hr
              injection this with i1 i2
              rw [← i2, e166]; exact ⟨rfl, hs3⟩) ⟨r, eq0⟩
theorem e_M_formula {a : Ab} (W : WFA a) (K : WFW a) {m : Int} (m0 : 0 ≤ m) (m1 : m < a.measures) {V : Hp → Int → Int → Int → Int → Int → Option (Int × Hp)} {d t x y : Int} (hV : mVok a m V (crk a t x y)) (hd : inD d) (h : cin a t x y) (hk : a.kind (12 * d + crd d t x y) = 2) {σ : Hp} (M : MS σ a) (b0 : 0 ≤ σ 129 46) (b1 : σ 129 46 + 10 * (crk a t x y + 1) ≤ 3690) : Okk (f_M_formula V σ d t x y m 0) fun r => r.1 = frm (val a m) a d t x y ∧ MS r.2 a ∧ vch (σ 129 46) σ r.2 ∧ r.2 129 46 = σ 129 46 := by
  have hw := wds K hd (crd_t hd h) hk
  have hd' := inD_b hd
  have c12 := thr12 W hd (crd_t hd h)
  have hck := crk_b W h
  have h45 := e_M_formula_45 W K m0 m1 hV hd h hk b0 b1 (σ0 := σ) zFuel 0 σ hw.2.1.1 (by have := hw.2.1.2.1; unfold zFuel; omega) M (vch_r _ _) trivial
  unfold f_M_formula
  refine ok_grd (by (first | omega | (unfold r32; omega) | (unfold r64; omega) | (simp only [r32, r64] at *; omega))) (ok_call (P := fun r => r = crd d t x y) ?_ ?_)
  · unfold crd
    refine ok_ite (fun g => ok_ite (fun g2 => ok_some (by rw [if_neg g, if_neg g2])) (fun g2 => ok_some (by rw [if_neg g, if_pos (by omega)]))) (fun g => ok_some (by rw [if_pos (by omega)]))
  · rintro j rfl
    refine ok_grd (by (first | omega | (unfold r32; omega) | (unfold r64; omega) | (simp only [r32, r64] at *; omega))) (ok_grd (by (first | omega | (unfold r32; omega) | (unfold r64; omega) | (simp only [r32, r64] at *; omega))) ?_)
    simp only [show frmF (val a m) a d t x y (12 * d + crd d t x y) 0 = [] from rfl, List.length_nil, Int.natCast_zero, Int.add_zero] at h45
    refine ok_call h45 ?_
    rintro r ⟨r1, r2, r3⟩
    have hl := hw.2.1.1
    have hok := okl_frmF (v := val a m) W K hd h hk (fun t' x' y' h' _ => okv_val W K m0 m1 h') (a.len (12 * d + crd d t x y)).toNat (by omega)
    rw [hw.2.2.1] at hok
    have ef : frm (val a m) a d t x y = (frmF (val a m) a d t x y (12 * d + crd d t x y) (a.len (12 * d + crd d t x y)).toNat).headD zNO := rfl
    have e46 : (hset r.2.2 129 46 (σ 129 46)) 129 46 = σ 129 46 := hs_eq
    refine ok_grd (by omega) (ok_some ⟨?_, MS_b r1 _, vch_t r2 (vch_b _ _ _) (Int.le_refl _), e46⟩)
    show (hset r.2.2 129 46 (σ 129 46)) 166 (σ 129 46) = _
    rw [hset_ne (by omega), ef]
    generalize frmF (val a m) a d t x y (12 * d + crd d t x y) (a.len (12 * d + crd d t x y)).toNat = st at *
    match st, r3, hok with
    | [], _, hok => have := hok.2; simp at this
    | q :: p :: s, _, hok => have := hok.2; simp only [List.length_cons] at this; omega
    | [q], r3, _ =>
      have := r3.1
      simp only [List.length_nil, Int.natCast_zero, Int.add_zero] at this
      exact this
theorem e_M_value_60 {σ : Hp} {a : Ab} (W : WFA a) (V : Vw σ a) {t x y : Int} (h : cin a t x y) (F : Nat) : Okk (f_M_value_60 F σ t x y zFuel (-1) 0) fun r => r.1 = lead a t x y := by
  have t12 := thr12 W iD0 h.1
  have x12 := thr12 W iD1 h.2.1
  have y12 := thr12 W iD2 h.2.2
  have o0 := ord_b W iD0 h.1
  have o1 := ord_b W iD1 h.2.1
  have o2 := ord_b W iD2 h.2.2
  show Okk (f_M_value_60 F σ t x y (999996 + 1 + 1 + 1 + 1) (-1) 0) _
  rw [f_M_value_60, if_neg (by omega)]
  refine ok_grd (by (first | omega | (unfold r32; omega) | (unfold r64; omega) | (simp only [r32, r64] at *; omega))) (ok_bind ?_)
  rw [if_neg (by simp)]
  refine ok_some (ok_grd (by (first | omega | (unfold r32; omega) | (unfold r64; omega) | (simp only [r32, r64] at *; omega))) (ok_grd (by omega) ?_))
  rw [w_kind V]
  refine ok_call (P := fun r => (r = 1 ∧ ord a 0 t ≠ -1) ∨ (r = 0 ∧ ord a 0 t = -1)) ?_ ?_
  · refine ok_ite (fun g => ok_some (Or.inr ⟨rfl, ?_⟩)) (fun g => ?_)
    · rcases o0 with o | o
      · exact absurd o.1 g
      · exact o.2
    · rw [if_pos (by omega)]
      refine ok_some (Or.inl ⟨rfl, ?_⟩)
      rcases o0 with o | o
      · omega
      · exact absurd (Classical.not_not.mp g) o.1
  intro r hr
  refine ok_call (P := fun b => b = if ord a 0 t ≠ -1 then 0 else -1) ?_ ?_
  · rcases hr with ⟨rfl, g⟩ | ⟨rfl, g⟩
    · rw [if_neg (by omega), if_pos g]; exact ok_some rfl
    · rw [if_pos rfl, if_neg (by omega)]; exact ok_some rfl
  intro b1 hb1
  refine ok_grd (by (first | omega | (unfold r32; omega) | (unfold r64; omega) | (simp only [r32, r64] at *; omega))) ?_
  rw [show (0 : Int) + 1 = 1 by omega, f_M_value_60, if_neg (by omega)]
  refine ok_grd (by (first | omega | (unfold r32; omega) | (unfold r64; omega) | (simp only [r32, r64] at *; omega))) (ok_bind ?_)
  rw [if_pos (by omega), if_neg (by simp)]
  refine ok_some (ok_grd (by (first | omega | (unfold r32; omega) | (unfold r64; omega) | (simp only [r32, r64] at *; omega))) (ok_grd (by omega) ?_))
  rw [w_kind V]
  refine ok_call (P := fun r => (r = 1 ∧ ord a 1 x ≠ -1 ∧ ord a 0 t ≤ ord a 1 x) ∨ (r = 0 ∧ ¬ (ord a 1 x ≠ -1 ∧ ord a 0 t ≤ ord a 1 x))) ?_ ?_
  · refine ok_ite (fun g => ok_some (Or.inr ⟨rfl, fun q => ?_⟩)) (fun g => ?_)
    · rcases o1 with o | o
      · exact g o.1
      · exact q.1 o.2
    · have hk1 := Classical.not_not.mp g
      have o1' := o1.resolve_right (fun q => q.1 hk1)
      by_cases e : ord a 0 t ≠ -1
      · rw [if_pos e] at hb1
        subst hb1
        have o0' := o0.resolve_right (fun q => e q.2)
        rw [if_neg (by omega)]
        refine ok_grd (by omega) (ok_grd (by (first | omega | (unfold r32; omega) | (unfold r64; omega) | (simp only [r32, r64] at *; omega))) (ok_bind ?_))
        rw [if_neg (by simp)]
        refine ok_some (ok_grd (by (first | omega | (unfold r32; omega) | (unfold r64; omega) | (simp only [r32, r64] at *; omega))) (ok_grd (by omega) ?_))
        rw [w_order V, w_order V, ← o1'.2.1, ← o0'.2.1]
        exact ok_ite (fun q => ok_some (Or.inr ⟨rfl, fun q => by omega⟩)) (fun q => ok_some (Or.inl ⟨rfl, by omega, by omega⟩))
      · rw [if_neg e] at hb1
        subst hb1
        rw [if_pos (by omega)]
        exact ok_some (Or.inl ⟨rfl, by omega, by omega⟩)
  intro r hr2
  refine ok_call (P := fun b => b = if ord a 1 x ≠ -1 ∧ ord a 0 t ≤ ord a 1 x then 1 else b1) ?_ ?_
  · rcases hr2 with ⟨rfl, g⟩ | ⟨rfl, g⟩
    · rw [if_neg (by omega), if_pos g]; exact ok_some rfl
    · rw [if_pos rfl, if_neg g]; exact ok_some rfl
  intro b2 hb2
  refine ok_grd (by (first | omega | (unfold r32; omega) | (unfold r64; omega) | (simp only [r32, r64] at *; omega))) ?_
  rw [show (1 : Int) + 1 = 2 by omega, f_M_value_60, if_neg (by omega)]
  refine ok_grd (by (first | omega | (unfold r32; omega) | (unfold r64; omega) | (simp only [r32, r64] at *; omega))) (ok_bind ?_)
  rw [if_pos (by omega), if_pos (by omega)]
  refine ok_some (ok_grd (by (first | omega | (unfold r32; omega) | (unfold r64; omega) | (simp only [r32, r64] at *; omega))) (ok_grd (by omega) ?_))
  rw [w_kind V]
  refine ok_call (P := fun r => (r = 1 ∧ ord a 2 y ≠ -1 ∧ ord a 0 t ≤ ord a 2 y ∧ ord a 1 x ≤ ord a 2 y) ∨ (r = 0 ∧ ¬ (ord a 2 y ≠ -1 ∧ ord a 0 t ≤ ord a 2 y ∧ ord a 1 x ≤ ord a 2 y))) ?_ ?_
  · refine ok_ite (fun g => ok_some (Or.inr ⟨rfl, fun q => ?_⟩)) (fun g => ?_)
    · rcases o2 with o | o
      · exact g o.1
      · exact q.1 o.2
    · have hk2 := Classical.not_not.mp g
      have o2' := o2.resolve_right (fun q => q.1 hk2)
      by_cases e1 : ord a 1 x ≠ -1 ∧ ord a 0 t ≤ ord a 1 x
      · rw [if_pos e1] at hb2
        subst hb2
        have o1' := o1.resolve_right (fun q => e1.1 q.2)
        rw [if_neg (by omega)]
        refine ok_grd (by omega) (ok_grd (by (first | omega | (unfold r32; omega) | (unfold r64; omega) | (simp only [r32, r64] at *; omega))) (ok_bind ?_))
        rw [if_pos (by omega)]
        refine ok_some (ok_grd (by (first | omega | (unfold r32; omega) | (unfold r64; omega) | (simp only [r32, r64] at *; omega))) (ok_grd (by omega) ?_))
        rw [w_order V, w_order V, ← o2'.2.1, ← o1'.2.1]
        exact ok_ite (fun q => ok_some (Or.inr ⟨rfl, fun q => by omega⟩)) (fun q => ok_some (Or.inl ⟨rfl, by omega, by omega, by omega⟩))
      · rw [if_neg e1] at hb2
        subst hb2
        by_cases e : ord a 0 t ≠ -1
        · rw [if_pos e] at hb1
          subst hb1
          have o0' := o0.resolve_right (fun q => e q.2)
          rw [if_neg (by omega)]
          refine ok_grd (by omega) (ok_grd (by (first | omega | (unfold r32; omega) | (unfold r64; omega) | (simp only [r32, r64] at *; omega))) (ok_bind ?_))
          rw [if_neg (by simp)]
          refine ok_some (ok_grd (by (first | omega | (unfold r32; omega) | (unfold r64; omega) | (simp only [r32, r64] at *; omega))) (ok_grd (by omega) ?_))
          rw [w_order V, w_order V, ← o2'.2.1, ← o0'.2.1]
          refine ok_ite (fun q => ok_some (Or.inr ⟨rfl, fun q => by omega⟩)) (fun q => ok_some (Or.inl ⟨rfl, by omega, by omega, ?_⟩))
          by_cases e3 : ord a 1 x = -1
          · omega
          · have : ¬ ord a 0 t ≤ ord a 1 x := fun q => e1 ⟨e3, q⟩
            omega
        · rw [if_neg e] at hb1
          subst hb1
          rw [if_pos (by omega)]
          refine ok_some (Or.inl ⟨rfl, by omega, by omega, ?_⟩)
          by_cases e3 : ord a 1 x = -1
          · omega
          · have : ¬ ord a 0 t ≤ ord a 1 x := fun q => e1 ⟨e3, q⟩
            omega
  intro r hr3
  refine ok_call (P := fun b => b = lead a t x y) ?_ ?_
  · unfold lead
    rcases hr3 with ⟨rfl, g⟩ | ⟨rfl, g⟩
    · rw [if_neg (by omega), if_pos g]; exact ok_some rfl
    · rw [if_pos rfl, if_neg g, hb2, hb1]; exact ok_some rfl
  intro b3 hb3
  refine ok_grd (by (first | omega | (unfold r32; omega) | (unfold r64; omega) | (simp only [r32, r64] at *; omega))) ?_
  rw [show (2 : Int) + 1 = 3 by omega, f_M_value_60, if_pos (by omega)]
  exact ok_some hb3
/-- only the memo may differ -/
def wch (σ σ' : Hp) : Prop := ∀ q : Nat, q ≠ 160 → q ≠ 161 → σ' q = σ q
theorem wch_m (σ : Hp) (i j v w : Int) : wch σ (hset (hset σ 161 i v) 160 j w) := fun q h1 h2 => by rw [hset_ne h1, hset_ne h2]
theorem wch_v {σ σ' : Hp} (h : wch σ σ') (b : Int) : vch b σ σ' := ⟨fun q _ h1 h2 _ => h q h1 h2, fun j _ => by rw [h 129 (by omega) (by omega)], fun j _ => by rw [h 166 (by omega) (by omega)]⟩
theorem wch_t {σ σ' σ'' : Hp} (h1 : wch σ σ') (h2 : wch σ' σ'') : wch σ σ'' := fun q a b => (h2 q a b).trans (h1 q a b)
theorem m_rat (σ : Hp) {x y : Int} (hx : okv x) (hy : okv y) : Okk (if (lcm x (-9223372036854775808)) = 0 then some (-9223372036854775808) else if (lcm y (-9223372036854775808)) = 0 then some (-9223372036854775808) else if (lcm y 0) ≠ 0 then grd (r64 (1000 * x)) <| grd (y ≠ 0 ∧ r64 (Int.tdiv (1000 * x) y)) <| (f_M_bound σ (Int.tdiv (1000 * x) y)).bind fun v55 => some v55 else some (-9223372036854775808) : Option (Int)) fun r => r = rat x y := by
  simp only [ne_eq, lcm_eq, no_e]
  refine ok_ite (fun h => ok_some (rat_no (Or.inl h)).symm) (fun h => ok_ite (fun h2 => ok_some (rat_no (Or.inr (Or.inl h2))).symm) (fun h2 => ok_ite (fun h3 => ?_) (fun h3 => ok_some (rat_no (Or.inr (Or.inr (Classical.not_not.mp h3)))).symm)))
  have rx := okv_r hx h
  have rt := tdiv_r (x := 1000 * x) (y := y) (by omega)
  rw [rat_v h h2 h3]
  exact ok_grd (by (first | omega | (unfold r32; omega) | (unfold r64; omega) | (simp only [r32, r64] at *; omega))) (ok_grd ⟨h3, by (first | omega | (unfold r32; omega) | (unfold r64; omega) | (simp only [r32, r64] at *; omega))⟩ (ok_eqb (e_M_bound σ _) (ok_some rfl)))
theorem e_M_who {a : Ab} (W : WFA a) {t x y : Int} (h : cin a t x y) (hl : lead a t x y = -1) : ∀ (F : Nat) (m : Int) (σ : Hp), 0 ≤ m → m < a.measures → m < F → MS σ a → Okk (f_M_value F σ t x y m 1) fun r => r.1 = who a m t x y ∧ MS r.2 a ∧ wch σ r.2 := by
  have t12 := thr12 W iD0 h.1
  have x12 := thr12 W iD1 h.2.1
  have y12 := thr12 W iD2 h.2.2
  intro F
  induction F with
  | zero => intro m σ m0 m1 hF; omega
  | succ F ih =>
    intro m σ m0 m1 hF M
    have hm := mea W m0 m1
    rw [f_M_value, if_neg (by omega)]
    refine ok_bind (ok_some (ok_grd (by (first | omega | (unfold r32; omega) | (unfold r64; omega) | (simp only [r32, r64] at *; omega))) (ok_grd (by (first | omega | (unfold r32; omega) | (unfold r64; omega) | (simp only [r32, r64] at *; omega))) (ok_grd (by (first | omega | (unfold r32; omega) | (unfold r64; omega) | (simp only [r32, r64] at *; omega))) (ok_grd (by (first | omega | (unfold r32; omega) | (unfold r64; omega) | (simp only [r32, r64] at *; omega))) (ok_grd (by (first | omega | (unfold r32; omega) | (unfold r64; omega) | (simp only [r32, r64] at *; omega))) (ok_grd (by (first | omega | (unfold r32; omega) | (unfold r64; omega) | (simp only [r32, r64] at *; omega))) (ok_grd (by (first | omega | (unfold r32; omega) | (unfold r64; omega) | (simp only [r32, r64] at *; omega))) (ok_grd (by omega) ?_)))))))))
    refine ok_ite (fun hk => ?_) (fun hk => ok_grd (by omega) (ok_some ?_))
    · refine ok_call (e_M_value_60 W M.1 h F) ?_
      rintro r hr
      rw [hr, hl, if_pos (by omega), if_pos (by omega), w_mk M.1]
      have fin : ∀ (v : Int) (σ' : Hp), v = who a m t x y → MS σ' a → wch σ σ' → Okk (grd (0 ≤ (6912 + 576 * t + 48 * x + 4 * y + m) ∧ (6912 + 576 * t + 48 * x + 4 * y + m) < 13824) <| grd (0 ≤ (6912 + 576 * t + 48 * x + 4 * y + m) ∧ (6912 + 576 * t + 48 * x + 4 * y + m) < 13824) <| some (v, (hset (hset σ' 161 (6912 + 576 * t + 48 * x + 4 * y + m) (σ' 129 38)) 160 (6912 + 576 * t + 48 * x + 4 * y + m) v))) fun r => r.1 = who a m t x y ∧ MS r.2 a ∧ wch σ r.2 := by
        intro v σ' hv M' hw
        exact ok_grd (by omega) (ok_grd (by omega) (ok_some ⟨hv, MS_set W M' h m0 m1 (Or.inr ⟨rfl, hl, hv⟩), wch_t hw (wch_m _ _ _ _ _)⟩))
      refine ok_call (P := fun r => r.1 = who a m t x y ∧ MS r.2 a ∧ wch σ r.2) ?_ (fun r hr => fin r.1 r.2 hr.1 hr.2.1 hr.2.2)
      rw [who_s W m0 m1]
      refine ok_grd (by omega) (ok_ite (fun h3 => ?_) (fun h3 => ?_))
      · rw [if_neg h3]
        exact ok_eqb (e_M_plain W M.1 h.1 h.2.1 h.2.2 m0 m1) (ok_some ⟨rfl, M, fun _ _ _ => rfl⟩)
      · have h3' := Classical.not_not.mp h3
        have hab := hm.2.2.2 h3'
        rw [if_pos h3', w_ma M.1]
        refine ok_grd (by omega) (ok_call (ih (a.ma m) σ (by omega) (by omega) (by omega) M) ?_)
        rintro p ⟨p1, p2, p3⟩
        rw [w_mb p2.1]
        refine ok_grd (by omega) (ok_call (ih (a.mb m) p.2 (by omega) (by omega) (by omega) p2) ?_)
        rintro q ⟨q1, q2, q3⟩
        rw [p1, q1]
        refine ok_call (m_rat q.2 (okv_who W h (by omega) (by omega)) (okv_who W h (by omega) (by omega))) ?_
        rintro v rfl
        exact ok_some ⟨rfl, q2, wch_t p3 q3⟩
    · have M2 : ∀ t x y m : Int, thr a 0 t → thr a 1 x → thr a 2 y → 0 ≤ m → m < a.measures → (σ 161 (576 * t + 48 * x + 4 * y + m) = σ 129 38 → σ 160 (576 * t + 48 * x + 4 * y + m) = val a m t x y) ∧ (σ 161 (6912 + 576 * t + 48 * x + 4 * y + m) = σ 129 38 → lead a t x y = -1 ∧ σ 160 (6912 + 576 * t + 48 * x + 4 * y + m) = who a m t x y) := M.2.2
      exact ⟨((M2 t x y m h.1 h.2.1 h.2.2 m0 m1).2 (Classical.not_not.mp hk)).2, M, fun _ _ _ => rfl⟩
theorem e_M_value {a : Ab} (W : WFA a) (K : WFW a) {m : Int} (m0 : 0 ≤ m) (m1 : m < a.measures) : ∀ (F : Nat) (t x y : Int) (σ : Hp), MS σ a → cin a t x y → crk a t x y + 5 ≤ F → 0 ≤ σ 129 46 → σ 129 46 + 10 * (crk a t x y + 1) ≤ 3690 → Okk (f_M_value F σ t x y m 0) fun r => r.1 = val a m t x y ∧ MS r.2 a ∧ vch (σ 129 46) σ r.2 ∧ r.2 129 46 = σ 129 46 := by
  intro F
  induction F with
  | zero => intro t x y σ M h hF; have := crk_b W h; omega
  | succ F ih =>
    intro t x y σ M h hF b0 b1
    have t12 := thr12 W iD0 h.1
    have x12 := thr12 W iD1 h.2.1
    have y12 := thr12 W iD2 h.2.2
    have hm := mea W m0 m1
    have hcb := crk_b W h
    rw [f_M_value, if_pos rfl]
    refine ok_bind (ok_some (ok_grd (by (first | omega | (unfold r32; omega) | (unfold r64; omega) | (simp only [r32, r64] at *; omega))) (ok_grd (by (first | omega | (unfold r32; omega) | (unfold r64; omega) | (simp only [r32, r64] at *; omega))) (ok_grd (by (first | omega | (unfold r32; omega) | (unfold r64; omega) | (simp only [r32, r64] at *; omega))) (ok_grd (by (first | omega | (unfold r32; omega) | (unfold r64; omega) | (simp only [r32, r64] at *; omega))) (ok_grd (by (first | omega | (unfold r32; omega) | (unfold r64; omega) | (simp only [r32, r64] at *; omega))) (ok_grd (by (first | omega | (unfold r32; omega) | (unfold r64; omega) | (simp only [r32, r64] at *; omega))) (ok_grd (by (first | omega | (unfold r32; omega) | (unfold r64; omega) | (simp only [r32, r64] at *; omega))) (ok_grd (by omega) ?_)))))))))
    refine ok_ite (fun hk => ?_) (fun hk => ok_grd (by omega) (ok_some ?_))
    · refine ok_call (e_M_value_60 W M.1 h F) ?_
      rintro r hr
      rw [hr]
      have fin : ∀ (v : Int) (σ' : Hp), v = val a m t x y → MS σ' a → vch (σ 129 46) σ σ' → σ' 129 46 = σ 129 46 → Okk (grd (0 ≤ (0 + 576 * t + 48 * x + 4 * y + m) ∧ (0 + 576 * t + 48 * x + 4 * y + m) < 13824) <| grd (0 ≤ (0 + 576 * t + 48 * x + 4 * y + m) ∧ (0 + 576 * t + 48 * x + 4 * y + m) < 13824) <| some (v, (hset (hset σ' 161 (0 + 576 * t + 48 * x + 4 * y + m) (σ' 129 38)) 160 (0 + 576 * t + 48 * x + 4 * y + m) v))) fun r => r.1 = val a m t x y ∧ MS r.2 a ∧ vch (σ 129 46) σ r.2 ∧ r.2 129 46 = σ 129 46 := by
        intro v σ' hv M' hw hb
        have e46 : σ' 129 46 = σ 129 46 → (hset (hset σ' 161 (0 + 576 * t + 48 * x + 4 * y + m) (σ' 129 38)) 160 (0 + 576 * t + 48 * x + 4 * y + m) v) 129 46 = σ 129 46 := fun g => by rw [hset_ne (by omega), hset_ne (by omega)]; exact g
        exact ok_grd (by omega) (ok_grd (by omega) (ok_some ⟨hv, MS_set W M' h m0 m1 (Or.inl ⟨rfl, hv⟩), vch_t hw (vch_m _ _ _ _ _ _) (Int.le_refl _), e46 hb⟩))
      refine ok_call (P := fun r => r.1 = val a m t x y ∧ MS r.2 a ∧ vch (σ 129 46) σ r.2 ∧ r.2 129 46 = σ 129 46) ?_ (fun r hr => fin r.1 r.2 hr.1 hr.2.1 hr.2.2.1 hr.2.2.2)
      rcases lead_d W h with l | l
      · rw [if_pos (by omega), if_neg (by simp), val_p l.1]
        refine ok_eqb (e_M_isNothing W M.1 h.1 h.2.1 h.2.2 m0 m1) ?_
        by_cases hn : nth a m t x y
        · rw [bI_t hn, if_neg (by omega), if_pos hn]
          exact ok_some ⟨rfl, M, vch_r _ _, rfl⟩
        · rw [bI_f hn, if_pos rfl, if_neg hn, w_mk M.1, who_s W m0 m1]
          refine ok_grd (by omega) (ok_ite (fun h3 => ?_) (fun h3 => ?_))
          · rw [if_neg h3]
            exact ok_eqb (e_M_plain W M.1 h.1 h.2.1 h.2.2 m0 m1) (ok_some ⟨rfl, M, vch_r _ _, rfl⟩)
          · have h3' := Classical.not_not.mp h3
            have hab := hm.2.2.2 h3'
            rw [if_pos h3', w_ma M.1]
            refine ok_grd (by omega) (ok_call (e_M_who W h l.1 F (a.ma m) σ (by omega) (by omega) (by omega) M) ?_)
            rintro p ⟨p1, p2, p3⟩
            rw [w_mb p2.1]
            refine ok_grd (by omega) (ok_call (e_M_who W h l.1 F (a.mb m) p.2 (by omega) (by omega) (by omega) p2) ?_)
            rintro q ⟨q1, q2, q3⟩
            rw [p1, q1]
            refine ok_call (m_rat q.2 (okv_who W h (by omega) (by omega)) (okv_who W h (by omega) (by omega))) ?_
            rintro v rfl
            have hw := wch_t p3 q3
            exact ok_some ⟨rfl, q2, wch_v hw _, by rw [hw 129 (by omega) (by omega)]⟩
      · rw [if_neg (by omega), val_c W K h l.2.1]
        have hV : mVok a m (f_M_value F) (crk a t x y) := fun σ' t' x' y' M' h' hc c0 c1 => ih t' x' y' σ' M' h' (by omega) c0 c1
        refine ok_call (e_M_formula W K m0 m1 hV l.1 h l.2.2 M b0 b1) ?_
        rintro r ⟨r1, r2, r3, r4⟩
        exact ok_some ⟨r1, r2, r3, r4⟩
    · have M2 : ∀ t x y m : Int, thr a 0 t → thr a 1 x → thr a 2 y → 0 ≤ m → m < a.measures → (σ 161 (576 * t + 48 * x + 4 * y + m) = σ 129 38 → σ 160 (576 * t + 48 * x + 4 * y + m) = val a m t x y) ∧ (σ 161 (6912 + 576 * t + 48 * x + 4 * y + m) = σ 129 38 → lead a t x y = -1 ∧ σ 160 (6912 + 576 * t + 48 * x + 4 * y + m) = who a m t x y) := M.2.2
      have hk' := Classical.not_not.mp hk
      rw [show (0 : Int) + 576 * t + 48 * x + 4 * y + m = 576 * t + 48 * x + 4 * y + m by omega] at hk' ⊢
      exact ⟨(M2 t x y m h.1 h.2.1 h.2.2 m0 m1).1 hk', M, vch_r _ _, rfl⟩
/-- M.ask -/
theorem e_M_ask {a : Ab} (W : WFA a) (K : WFW a) {m t x y : Int} (m0 : 0 ≤ m) (m1 : m < a.measures) (h : cin a t x y) {σ : Hp} (M : MS σ a) (hb : σ 129 46 = 0) : Okk (f_M_ask σ t x y m) fun r => r.1 = @ite _ (seeP a 0 t ∧ seeP a 1 x ∧ seeP a 2 y) (Classical.propDecidable _) (val a m t x y) zNO ∧ MS r.2 a ∧ vch 0 σ r.2 ∧ r.2 129 46 = 0 := by
  have hcb := crk_b W h
  unfold f_M_ask
  refine ok_eqb (e_M_areSeen W M.1 h.1 h.2.1 h.2.2) ?_
  by_cases hs : seeP a 0 t ∧ seeP a 1 x ∧ seeP a 2 y
  · rw [bI_t hs, if_neg (by omega), if_pos hs]
    refine ok_bind (ok_call (e_M_value W K m0 m1 zDeep t x y σ M h (by unfold zDeep; omega) (by omega) (by omega)) ?_)
    rintro r ⟨r1, r2, r3, r4⟩
    rw [hb] at r3 r4
    exact ok_some (ok_some ⟨r1, r2, r3, r4⟩)
  · rw [bI_f hs, if_pos rfl, if_neg hs]
    exact ok_bind (ok_some (ok_some ⟨rfl, M, vch_r _ _, hb⟩))

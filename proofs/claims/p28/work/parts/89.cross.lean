/-! ===== cross ===== -/
section
variable {σ : Hp} {a a' b : Ab} {n : Nat} {B : Int} {e : Nat}
noncomputable def aV (a : Ab) (m : Int) (c : Int × Int × Int) : Int := @ite _ (seeP a 0 c.1 ∧ seeP a 1 c.2.1 ∧ seeP a 2 c.2.2) (Classical.propDecidable _) (val a m c.1 c.2.1 c.2.2) zNO
def chC (a : Ab) : Int × Int × Int := (a.chos 0, a.chos 1, a.chos 2)
def wD (d z : Int) (c : Int × Int × Int) : Int × Int × Int := withD d z c.1 c.2.1 c.2.2
def cin3 (a : Ab) (c : Int × Int × Int) : Prop := cin a c.1 c.2.1 c.2.2
theorem chC_in (W : WFA a) : cin3 a (chC a) := ⟨W 15 0 iD0, W 15 1 iD1, W 15 2 iD2⟩
theorem wD_in {d z : Int} (hd : inD d) (hz : thr a d z) {c : Int × Int × Int} (h : cin3 a c) : cin3 a (wD d z c) := by
  unfold wD withD
  rcases hd with rfl | rfl | rfl
  · exact ⟨hz, h.2.1, h.2.2⟩
  · exact ⟨h.1, hz, h.2.2⟩
  · exact ⟨h.1, h.2.1, hz⟩
/-- the cell of a pair -/
def crC (a : Ab) (d1 d2 i j : Int) : Int × Int × Int := wD d2 (a.pick (12 * d2 + j)) (wD d1 (a.pick (12 * d1 + i)) (chC a))
noncomputable def crI (a : Ab) (m d1 d2 i : Int) : Nat → Int
  | 0 => 0
  | j + 1 => crI a m d1 d2 i j + if aV a m (crC a d1 d2 i j) = zNO then 0 else 1
noncomputable def crO (a : Ab) (m d1 d2 : Int) : Nat → Int
  | 0 => 0
  | i + 1 => crO a m d1 d2 i + crI a m d1 d2 i (a.picks d2).toNat
theorem crI_b (a : Ab) (m d1 d2 i : Int) : ∀ j : Nat, 0 ≤ crI a m d1 d2 i j ∧ crI a m d1 d2 i j ≤ j
  | 0 => ⟨Int.le_refl _, Int.le_refl _⟩
  | j + 1 => by
    have ih := crI_b a m d1 d2 i j
    show 0 ≤ crI a m d1 d2 i j + (if _ then (0 : Int) else 1) ∧ crI a m d1 d2 i j + (if _ then (0 : Int) else 1) ≤ _
    by_cases g : aV a m (crC a d1 d2 i j) = zNO
    · rw [if_pos g]; omega
    · rw [if_neg g]; omega
theorem crO_b (a : Ab) (m d1 d2 : Int) (h : a.picks d2 ≤ 12) : ∀ i : Nat, 0 ≤ crO a m d1 d2 i ∧ crO a m d1 d2 i ≤ 12 * i
  | 0 => ⟨Int.le_refl _, Int.le_refl _⟩
  | i + 1 => by
    have ih := crO_b a m d1 d2 h i
    have g := crI_b a m d1 d2 i (a.picks d2).toNat
    show 0 ≤ crO a m d1 d2 i + crI a m d1 d2 i (a.picks d2).toNat ∧ crO a m d1 d2 i + crI a m d1 d2 i (a.picks d2).toNat ≤ _
    omega
theorem pck (W : WFA a) {d i : Int} (hd : inD d) (i0 : 0 ≤ i) (i1 : i < a.picks d) : thr a d (a.pick (12 * d + i)) := ((show ∀ d : Int, inD d → 0 ≤ a.picks d ∧ a.picks d ≤ 12 ∧ ∀ i : Int, 0 ≤ i → i < a.picks d → thr a d (a.pick (12 * d + i)) ∧ isP a d (a.pick (12 * d + i)) from W 16) d hd).2.2 i i0 i1 |>.1
theorem pck_b (W : WFA a) {d : Int} (hd : inD d) : 0 ≤ a.picks d ∧ a.picks d ≤ 12 := by
  have g := (show ∀ d : Int, inD d → 0 ≤ a.picks d ∧ a.picks d ≤ 12 ∧ ∀ i : Int, 0 ≤ i → i < a.picks d → thr a d (a.pick (12 * d + i)) ∧ isP a d (a.pick (12 * d + i)) from W 16) d hd
  exact ⟨g.1, g.2.1⟩
theorem r_pickedAt (W : WFA a) (R : ICR σ a) {d i : Int} (hd : inD d) (i0 : 0 ≤ i) (i1 : i < a.picks d) : f_D_pickedAt σ (dP d) i = some (a.pick (12 * d + i)) := by
  have g : σ (dP d) 2 = a.picks d ∧ ∀ i : Int, 0 ≤ i → i < a.picks d → σ (dP d + 12) i = a.pick (12 * d + i) := icr_d R hd 2
  have pb := pck_b W hd
  rw [e_D_pickedAt, g.1, if_pos ⟨i0, i1, by omega⟩, g.2 i i0 i1]
theorem r_chosen (W : WFA a) (R : ICR σ a) : f_S_chosenCell σ = some (clq (chC a).1 (chC a).2.1 (chC a).2.2) := by
  have h := chC_in W
  have t12 := thr12 W iD0 h.1
  have x12 := thr12 W iD1 h.2.1
  have y12 := thr12 W iD2 h.2.2
  have e0 : σ 2 1 = (chC a).1 := R.1 1
  have e1 : σ 32 1 = (chC a).2.1 := R.2.1 1
  have e2 : σ 62 1 = (chC a).2.2 := R.2.2.1 1
  unfold f_S_chosenCell
  apply ok_eq
  rw [e0, e1, e2]
  refine ok_grd (by (first | omega | (unfold r32; omega) | (unfold r64; omega) | (simp only [r32, r64] at *; omega))) (ok_grd (by (first | omega | (unfold r32; omega) | (unfold r64; omega) | (simp only [r32, r64] at *; omega))) (ok_grd (by (first | omega | (unfold r32; omega) | (unfold r64; omega) | (simp only [r32, r64] at *; omega))) (ok_grd (by (first | omega | (unfold r32; omega) | (unfold r64; omega) | (simp only [r32, r64] at *; omega))) (ok_some ?_))))
  unfold clq; omega
/-- the class's inner loop -/
theorem c_82 (W : WFA a) (K : WFW a) {m : Int} (m0 : 0 ≤ m) (m1 : m < a.measures) {d1 d2 i : Int} (h1 : inD d1) (h2 : inD d2) (i0 : 0 ≤ i) (i1 : i < a.picks d1) {v4 : Nat × Nat} (hv4 : v4.2 = dP d2) {y0 : Int} (y00 : 0 ≤ y0 ∧ y0 ≤ 1000) : ∀ (F j : Nat) (s : Hp), (j : Int) ≤ a.picks d2 → a.picks d2 - j < F → RS s a m n → Okk (f_C_cross_82 d2 v4 (clq (wD d1 (a.pick (12 * d1 + i)) (chC a)).1 (wD d1 (a.pick (12 * d1 + i)) (chC a)).2.1 (wD d1 (a.pick (12 * d1 + i)) (chC a)).2.2) F (y0 + crI a m d1 d2 i j) j s) fun r => r.1 = y0 + crI a m d1 d2 i (a.picks d2).toNat ∧ RS r.2.2 a m n ∧ rch 0 s r.2.2 := by
  have pb := pck_b W h2
  intro F
  induction F with
  | zero => intro j s j1 hF; omega
  | succ F ih =>
    intro j s j1 hF M
    have g2 : s (dP d2) 2 = a.picks d2 ∧ _ := icr_d M.1 h2 2
    rw [f_C_cross_82, hv4, g2.1]
    refine ok_ite (fun g => ok_some ⟨by rw [show (a.picks d2).toNat = j by omega], M, rch_r _ _⟩) (fun g => ?_)
    have ht := pck W h2 (i := j) (by omega) (by omega)
    have c1 : cin3 a (wD d1 (a.pick (12 * d1 + i)) (chC a)) := wD_in h1 (pck W h1 i0 i1) (chC_in W)
    have c2 : cin3 a (crC a d1 d2 i j) := wD_in h2 ht c1
    have cb := crI_b a m d1 d2 i j
    refine ok_eqb (r_pickedAt W M.1 h2 (by omega) (by omega)) ?_
    refine ok_eqb (r_withMember s W c1 h2 (thr12 W h2 ht)) ?_
    refine ok_call (c_asAsked W K m0 m1 M c2) ?_
    rintro r ⟨r1, r2, r3⟩
    have e1 : r.1 = aV a m (crC a d1 d2 i j) := r1
    have es : crI a m d1 d2 i (j + 1) = crI a m d1 d2 i j + if aV a m (crC a d1 d2 i j) = zNO then 0 else 1 := rfl
    refine ok_call (P := fun z => z = y0 + crI a m d1 d2 i (j + 1)) ?_ ?_
    · rw [e1]
      refine ok_ite (fun q => ok_some ?_) (fun q => ok_grd (by (first | omega | (unfold r32; omega) | (unfold r64; omega) | (simp only [r32, r64] at *; omega))) (ok_some ?_))
      · rw [es, if_pos (show aV a m (crC a d1 d2 i j) = zNO from lcm_eq.mp q)]; omega
      · rw [es, if_neg (show ¬ aV a m (crC a d1 d2 i j) = zNO from fun z => q (lcm_eq.mpr z))]; omega
    · rintro z rfl
      refine ok_grd (by (first | omega | (unfold r32; omega) | (unfold r64; omega) | (simp only [r32, r64] at *; omega))) ?_
      rw [show ((j : Int) + 1) = ((j + 1 : Nat) : Int) by omega]
      exact ok_mono (ih (j + 1) r.2 (by omega) (by omega) r2) (fun q hq => ⟨hq.1, hq.2.1, rch_t r3 hq.2.2 (Int.le_refl _)⟩)
theorem c_49 (W : WFA a) (K : WFW a) {m : Int} (m0 : 0 ≤ m) (m1 : m < a.measures) {d1 d2 : Int} (h1 : inD d1) (h2 : inD d2) {v1 v4 : Nat × Nat} (hv1 : v1.2 = dP d1) (hv4 : v4.2 = dP d2) : ∀ (F i : Nat) (s : Hp), (i : Int) ≤ a.picks d1 → a.picks d1 - i < F → RS s a m n → Okk (f_C_cross_49 d1 d2 v1 v4 F (crO a m d1 d2 i) i s) fun r => r.1 = crO a m d1 d2 (a.picks d1).toNat ∧ RS r.2.2 a m n ∧ rch 0 s r.2.2 := by
  have pb1 := pck_b W h1
  have pb2 := pck_b W h2
  intro F
  induction F with
  | zero => intro i s i1 hF; omega
  | succ F ih =>
    intro i s i1 hF M
    have g2 : s (dP d1) 2 = a.picks d1 ∧ _ := icr_d M.1 h1 2
    rw [f_C_cross_49, hv1, g2.1]
    refine ok_ite (fun g => ok_some ⟨by rw [show (a.picks d1).toNat = i by omega], M, rch_r _ _⟩) (fun g => ?_)
    have ht := pck W h1 (i := i) (by omega) (by omega)
    have ob := crO_b a m d1 d2 pb2.2 i
    refine ok_eqb (r_chosen W M.1) ?_
    refine ok_eqb (r_pickedAt W M.1 h1 (by omega) (by omega)) ?_
    refine ok_eqb (r_withMember s W (chC_in W) h1 (thr12 W h1 ht)) ?_
    have L := c_82 (n := n) W K m0 m1 h1 h2 (i := i) (by omega) (by omega) hv4 (y0 := crO a m d1 d2 i) (by omega) zFuel 0 s (by omega) (by unfold zFuel; omega) M
    have e0 : crO a m d1 d2 i + crI a m d1 d2 i 0 = crO a m d1 d2 i := by show crO a m d1 d2 i + 0 = _; omega
    rw [e0] at L
    refine ok_call L ?_
    rintro r ⟨r1, r2, r3⟩
    refine ok_grd (by (first | omega | (unfold r32; omega) | (unfold r64; omega) | (simp only [r32, r64] at *; omega))) ?_
    rw [r1, show ((i : Int) + 1) = ((i + 1 : Nat) : Int) by omega]
    exact ok_mono (ih (i + 1) r.2.2 (by omega) (by omega) r2) (fun q hq => ⟨hq.1, hq.2.1, rch_t r3 hq.2.2 (Int.le_refl _)⟩)
end

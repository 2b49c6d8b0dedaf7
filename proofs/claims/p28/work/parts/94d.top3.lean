section
variable {σ : Hp} {a a' b : Ab} {n : Nat} {B : Int} {e : Nat} {d m : Int}
/-- the value of a member with what is chosen -/
noncomputable def mV (a : Ab) (m d y : Int) : Int := aV a m (wD d y (chC a))
/-- the members that stand at the first j picked places and have a value -/
def stP (a : Ab) (m d : Int) (yv : Int → Int) (j : Int) (y : Int) : Prop := (∃ i : Int, 0 ≤ i ∧ i < j ∧ yv i = y) ∧ mV a m d y ≠ zNO
def KT (σ s : Hp) (a : Ab) (m d N : Int) (yv : Int → Int) (j c : Int) : Prop := (0 ≤ c ∧ c ≤ j) ∧ Arr (mV a m d) (stP a m d yv j) (s (dP d + 12)) c ∧ (∀ i : Int, 0 ≤ i → i < c → s 124 i = mV a m d (s (dP d + 12) i)) ∧ (∀ i : Int, j ≤ i → i < N → s (dP d + 12) i = yv i) ∧ (∀ i : Int, 0 ≤ i → i < N → ∃ i' : Int, 0 ≤ i' ∧ i' < N ∧ s (dP d + 12) i = yv i') ∧ ktF σ s d N ∧ RM s a m ∧ s 116 4 = σ 116 4 + 1
theorem un_bind2 {α β : Type} {x : Option α} {f : α → β} {P : β → Prop} (h : Okk (x.bind fun r => some (f r)) P) : Okk x fun r => P (f r) := by
  cases x with
  | none => obtain ⟨a, h, _⟩ := h; cases h
  | some v => obtain ⟨a, h, p⟩ := h; cases h; exact ⟨v, rfl, p⟩
theorem RM_f {s u : Hp} (h : ∀ q : Nat, 116 ≤ q → q ≤ 118 → u q = s q) (H : RM s a m) : RM u a m := by
  unfold RM at H ⊢
  rw [h 116 (by omega) (by omega), h 117 (by omega) (by omega), h 118 (by omega) (by omega)]; exact H
theorem c_top21 (W : WFA a) (K : WFW a) (m0 : 0 ≤ m) (m1 : m < a.measures) (R : ICR σ a) (hf : fok σ a n) (hd : inD d) {N : Int} (N0 : 0 ≤ N) (N1 : N ≤ 12) {yv : Int → Int} (hy : ∀ i : Int, 0 ≤ i → i < N → thr a d (yv i) ∧ isP a d (yv i)) (asc : ∀ i j : Int, 0 ≤ i → i < j → j < N → yv i < yv j) {s0 : Hp} (hN : s0 (dP d) 2 = N) : ∀ (F : Nat) (j c : Int) (s : Hp), 0 ≤ j → j ≤ N → N - j < F → KT σ s a m d N yv j c → Okk (f_R_keepTop_21 s0 d (dP d) F c j s) fun r => KT σ r.2.2 a m d N yv N r.1 := by
  have hdp := dP_b hd
  intro F
  induction F with
  | zero => intro j c s j0 j1 hF; omega
  | succ F ih =>
    intro j c s j0 j1 hF T
    rw [f_R_keepTop_21, hN]
    refine ok_ite (fun g => ok_some (by dsimp only; rw [show N = j by omega] at T ⊢; exact T)) (fun g => ?_)
    obtain ⟨⟨t1, t1'⟩, t2, t3, t4, t5, t6, t7, t8⟩ := T
    rw [if_neg (by omega)]
    have h5 : ∀ i : Int, 0 ≤ i → i < N → thr a d (s (dP d + 12) i) ∧ isP a d (s (dP d + 12) i) := fun i i0 i1 => by
      obtain ⟨i', q0, q1, q2⟩ := t5 i i0 i1
      rw [q2]; exact hy i' q0 q1
    have C := kt_C W hd N0 N1 h5
    have W2 := pb_W W C
    have K2 := WFW_s K (pb_D (a := a) (d := d) (row := rwS a d s) (k := N)) pb_S
    have RS2 := kt_RS (n := n) W K R hf hd N0 N1 t6 h5 t7
    have h130 : Ab.many (pcB a d (rwS a d s) N) = a.many := pb_S.1 130 (by omega)
    have h163 : Ab.chos (pcB a d (rwS a d s) N) = a.chos := pb_q (by omega) (by omega)
    have ech : chC (pcB a d (rwS a d s) N) = chC a := by unfold chC; rw [h163]
    have ej : s (dP d + 12) j = yv j := t4 j (Int.le_refl _) (by omega)
    have hyj := hy j j0 (by omega)
    have c1 : cin3 a (wD d (yv j) (chC a)) := wD_in hd hyj.1 (chC_in W)
    have c2 : cin3 (pcB a d (rwS a d s) N) (wD d (yv j) (chC a)) := ⟨by simp only [thr, h130]; exact c1.1, by simp only [thr, h130]; exact c1.2.1, by simp only [thr, h130]; exact c1.2.2⟩
    have e2 : s (dP d) 2 = N := t6.2.2.1
    refine ok_eqb (v := yv j) ?_ ?_
    · rw [e_D_pickedAt, e2, if_pos ⟨j0, by omega, by omega⟩, ej]
    refine ok_eqb (r_chosen W2 RS2.1) ?_
    rw [ech]
    refine ok_eqb (r_withMember s W (chC_in W) hd (thr12 W hd hyj.1)) ?_
    have A := c_asAsked W2 K2 m0 (by rw [pb_M.2.2.2.2]; exact m1) RS2 c2
    have see : ∀ d' y : Int, seeP (pcB a d (rwS a d s) N) d' y ↔ seeP a d' y := fun d' y => seeP_c (sm_p pb_S) (pb_q (by omega) (by omega)) (pb_q (by omega) (by omega)) (by rw [show Ab.kind (pcB a d (rwS a d s) N) = a.kind from pb_S.1 131 (by omega)])
    have A2 : Okk (f_R_asAsked s (clq (wD d (yv j) (chC a)).1 (wD d (yv j) (chC a)).2.1 (wD d (yv j) (chC a)).2.2)) fun r => r.1 = mV a m d (yv j) ∧ RM r.2 a m ∧ rch 0 s r.2 := by
      refine ok_mono A ?_
      rintro r ⟨r1, r2, r3⟩
      refine ⟨?_, (pb_RM W K).mp r2.2.2, r3⟩
      rw [r1]
      unfold mV aV
      by_cases q : seeP a 0 (wD d (yv j) (chC a)).1 ∧ seeP a 1 (wD d (yv j) (chC a)).2.1 ∧ seeP a 2 (wD d (yv j) (chC a)).2.2
      · rw [if_pos q, if_pos (by rw [see, see, see]; exact q)]; exact val_cc W K pb_V c1
      · rw [if_neg q, if_neg (by rw [see, see, see]; exact q)]
    unfold f_R_asAsked at A2
    have es := r_S_isSeen W2 RS2.1 c2
    rw [es] at A2
    refine ok_eqb es ?_
    refine ok_call (un_bind2 (f := fun j : Int × Hp => (j.1, j.2)) A2) ?_
    rintro r ⟨r1, r2, r3⟩
    dsimp only at r1 r2 r3
    have X : ∀ q : Nat, q < 116 ∨ 124 ≤ q → r.2 q = s q := r3.1
    have x4 : r.2 116 4 = s 116 4 := r3.2.1 4 (by omega)
    obtain ⟨f1, f2, f3, f4⟩ := t6
    refine ok_call (P := fun u => KT σ u.2 a m d N yv (j + 1) u.1) ?_ ?_
    · rw [r1]
      refine ok_ite (fun q => ok_some ?_) (fun q => ?_)
      · have hz : mV a m d (yv j) = zNO := lcm_eq.mp q
        have eP : stP a m d yv (j + 1) = stP a m d yv j := by
          funext z; apply propext
          constructor
          · rintro ⟨⟨i, i0, i1, i2⟩, hv⟩
            by_cases w : i = j
            · rw [← i2, w] at hv; exact absurd hz hv
            · exact ⟨⟨i, i0, by omega, i2⟩, hv⟩
          · rintro ⟨⟨i, i0, i1, i2⟩, hv⟩
            exact ⟨⟨i, i0, by omega, i2⟩, hv⟩
        dsimp only
        unfold KT ktF
        rw [eP, X (dP d + 12) (by omega), X 124 (by omega), X (dP d) (by omega), x4]
        exact ⟨⟨t1, by omega⟩, t2, t3, fun i i0 i1 => t4 i (by omega) i1, t5, ⟨fun q q1 q2 q3 => by rw [X q (by omega)]; exact f1 q q1 q2 q3, f2, f3, fun q q1 => by rw [X q (by omega)]; exact f4 q q1⟩, r2, t8⟩
      · have hz : mV a m d (yv j) ≠ zNO := fun w => q (lcm_eq.mpr w)
        refine ok_call (c_rank (s := r.2) (p := dP d) (by omega) t1 (by omega)) ?_
        rintro u ⟨u0, t, w0, w1, w2, ⟨w3, w3'⟩, w4, w5, w6, w7⟩
        rw [X (dP d + 12) (by omega), X 124 (by omega)] at w2 w4
        rw [X (dP d + 12) (by omega)] at w5
        rw [X 124 (by omega)] at w6 w7
        refine ok_grd (by (first | omega | (unfold r32; omega) | (unfold r64; omega) | (simp only [r32, r64] at *; omega))) (ok_some ?_)
        dsimp only
        have eP : (fun z => stP a m d yv j z ∨ z = yv j) = stP a m d yv (j + 1) := by
          funext z; apply propext
          constructor
          · rintro (⟨⟨i, i0, i1, i2⟩, hv⟩ | hv)
            · exact ⟨⟨i, i0, by omega, i2⟩, hv⟩
            · exact ⟨⟨j, j0, by omega, hv.symm⟩, by rw [hv]; exact hz⟩
          · rintro ⟨⟨i, i0, i1, i2⟩, hv⟩
            by_cases w : i = j
            · exact Or.inr (by rw [← i2, w])
            · exact Or.inl ⟨⟨i, i0, by omega, i2⟩, hv⟩
        have AR := arr_ins (row' := u (dP d + 12)) (y := yv j) (t := t) t2 (fun y' hy' => by
          obtain ⟨⟨i, i0, i1, i2⟩, _⟩ := hy'
          rw [← i2]; exact asc i j i0 i1 (by omega)) w0 w1 (fun i i0 i1 => (w2 i i1).1) w3 (fun i i0 i1 => (w4 i i0 i1).1) (fun i i0 i1 => by rw [← t3 i (by omega) i1]; exact w6 i i0 i1) (fun h0 => by rw [← t3 (t - 1) (by omega) (by omega)]; exact w7 h0)
        rw [eP] at AR
        refine ⟨⟨by omega, by omega⟩, AR, fun i i0 i1 => ?_, fun i i0 i1 => ?_, fun i i0 i1 => ?_, ⟨fun q q1 q2 q3 => ?_, fun q hq => ?_, ?_, fun q q1 => ?_⟩, RM_f (fun q q1 q2 => u0 q (by omega) (by omega)) r2, ?_⟩
        · rcases Int.lt_trichotomy i t with g1 | g1 | g1
          · rw [(w2 i g1).1, (w2 i g1).2]; exact t3 i i0 (by omega)
          · rw [g1, w3, w3']
          · rw [(w4 i g1 (by omega)).1, (w4 i g1 (by omega)).2]; exact t3 (i - 1) (by omega) (by omega)
        · rw [w5 i (by omega)]; exact t4 i (by omega) i1
        · rcases Int.lt_trichotomy i t with g1 | g1 | g1
          · rw [(w2 i g1).1]; exact t5 i i0 i1
          · exact ⟨j, j0, by omega, by rw [g1, w3]⟩
          · by_cases g2 : i ≤ c
            · rw [(w4 i g1 g2).1]; exact t5 (i - 1) (by omega) (by omega)
            · rw [w5 i (by omega)]; exact t5 i i0 i1
        · rw [u0 q (by omega) q3, X q (by omega)]; exact f1 q q1 q2 q3
        · rw [u0 (dP d) (by omega) (by omega), X (dP d) (by omega)]; exact f2 q hq
        · rw [u0 (dP d) (by omega) (by omega), X (dP d) (by omega)]; exact f3
        · rw [u0 q (by omega) (by omega), X q (by omega)]; exact f4 q q1
        · rw [u0 116 (by omega) (by omega), x4]; exact t8
    · rintro u hu
      refine ok_grd (by (first | omega | (unfold r32; omega) | (unfold r64; omega) | (simp only [r32, r64] at *; omega))) ?_
      exact ih (j + 1) u.1 u.2 (by omega) (by omega) (by omega) hu
end

section
variable {σ : Hp} {a a' b : Ab} {n : Nat} {B : Int} {e : Nat} {d m : Int} {row row' : Int → Int}
theorem pk_j (j : Int) : pkA a row 129 j = a 129 j := by rw [pk_q (by omega)]
theorem pkA_M : smea a (pkA a row) := ⟨pk_q (by omega), pk_q (by omega), pk_q (by omega), pk_q (by omega), by show pkA a row 129 23 = a 129 23; rw [pk_q (by omega)]⟩
theorem pkA_V : sval a (pkA a row) := ⟨pk_S, pkA_M, ⟨pk_j 16, pk_j 17⟩, fun q h1 h2 => pk_q (by omega), pk_j 29, fun i _ => ⟨by unfold Ab.what; rw [pk_q (by omega)], by unfold Ab.one; rw [pk_q (by omega)], by unfold Ab.two; rw [pk_q (by omega)]⟩, fun s _ => by unfold Ab.len; rw [pk_q (by omega)]⟩
theorem pkA_K (K : WFW a) : WFW (pkA a row) := WFW_s K ⟨pk_q (by omega), pk_q (by omega), pk_q (by omega), pk_q (by omega)⟩ pk_S
theorem pkA_pkA : pkA (pkA a row) row' = pkA a row' := by
  funext q j
  show (if q = 164 then row' j else (if q = 164 then row j else a q j)) = if q = 164 then row' j else a q j
  by_cases h : q = 164
  · rw [if_pos h, if_pos h]
  · rw [if_neg h, if_neg h, if_neg h]
/-- rows that may be -/
def rwW (a : Ab) (row : Int → Int) : Prop := ∀ d i : Int, inD d → 0 ≤ i → i < a.picks d → thr a d (row (12 * d + i)) ∧ isP a d (row (12 * d + i))
theorem mV_c (W : WFA a) (K : WFW a) (S : sval a a') (hc : a'.chos = a.chos) (hd : inD d) {y : Int} (hy : thr a d y) : mV a' m d y = mV a m d y := by
  have ech : chC a' = chC a := by unfold chC; rw [hc]
  have c1 : cin3 a (wD d y (chC a)) := wD_in hd hy (chC_in W)
  have see : ∀ d' z : Int, seeP a' d' z ↔ seeP a d' z := fun d' z => seeP_c (sm_p S.1) (S.1.1 136 (by omega)) (S.1.1 134 (by omega)) (by rw [show Ab.kind a' = a.kind from S.1.1 131 (by omega)])
  unfold mV aV
  rw [ech]
  by_cases q : seeP a 0 (wD d y (chC a)).1 ∧ seeP a 1 (wD d y (chC a)).2.1 ∧ seeP a 2 (wD d y (chC a)).2.2
  · rw [if_pos q, if_pos (by rw [see, see, see]; exact q)]; exact val_cc W K S c1
  · rw [if_neg q, if_neg (by rw [see, see, see]; exact q)]
theorem MS_s (W : WFA a) (K : WFW a) (S : sval a a') {s s' : Hp} (M : MS s a) (V : Vw s' a') (h1 : s' 161 = s 161) (h0 : s' 160 = s 160) (h2 : s' 129 38 = s 129 38) : MS s' a' := by
  have h130 : a'.many = a.many := S.1.1 130 (by omega)
  have hm := S.2.1.2.2.2.2
  refine ⟨V, by rw [h1, h2]; exact M.2.1, ?_⟩
  intro t x y m ht hx hy m0 m1
  simp only [thr, h130] at ht hx hy
  rw [hm] at m1
  have g := (show ∀ t x y m : Int, thr a 0 t → thr a 1 x → thr a 2 y → 0 ≤ m → m < a.measures → (s 161 (576 * t + 48 * x + 4 * y + m) = s 129 38 → s 160 (576 * t + 48 * x + 4 * y + m) = val a m t x y) ∧ (s 161 (6912 + 576 * t + 48 * x + 4 * y + m) = s 129 38 → lead a t x y = -1 ∧ s 160 (6912 + 576 * t + 48 * x + 4 * y + m) = who a m t x y) from M.2.2) t x y m ht hx hy m0 m1
  rw [val_cc W K S ⟨ht, hx, hy⟩, lead_c S.1, who_c S, h1, h0, h2]
  exact g
theorem MS_row (W : WFA (pkA a row)) (K : WFW a) {s : Hp} (M : MS s (pkA a row)) {i v : Int} (hr : ∀ j : Int, row' j = if j = i then v else row j) : MS (hset s 164 i v) (pkA a row') := by
  have V : Vw (hset s 164 i v) (pkA a row') := fun q j hq => by
    by_cases h : q = 164
    · subst h
      have v2 : s 164 j = row j := (M.1 164 j hq).trans (if_pos rfl)
      rw [hs_if, v2]
      exact (hr j).symm.trans (show pkA a row' 164 j = row' j from if_pos rfl).symm
    · rw [hset_ne h, pk_q h, M.1 q j hq, pk_q h]
  have S : sval (pkA a row) (pkA a row') := by
    have g := pkA_V (a := pkA a row) (row := row')
    rw [pkA_pkA] at g; exact g
  exact MS_s W (pkA_K K) S M V (hset_ne (by omega)) (hset_ne (by omega)) (by rw [hset_ne (by omega)])
/-- left to be taken -/
def lfP (a : Ab) (m d x1 x2 y : Int) : Prop := bitP x1 y ∧ ¬ bitP x2 y ∧ mV a m d y ≠ zNO
theorem m_tops62 (W : WFA a) (K : WFW a) (m0 : 0 ≤ m) (m1 : m < a.measures) (hd : inD d) (hr : rwW a row) {x2 : Int} {j9 : Int × Int} (b1 : 0 ≤ j9.1 ∧ j9.1 < 4096) (b2 : 0 ≤ x2 ∧ x2 < 4096) (ht : ∀ j : Int, 0 ≤ j → j < 12 → bitP j9.1 j → thr a d j) : ∀ (F : Nat) (k y x : Int) (s : Hp), -1 ≤ k → k ≤ 11 → k + 1 < F → bst (mV a m d) (lfP a m d j9.1 x2) (k + 1) y x → MS s (pkA a row) → s 129 46 = 0 → Okk (f_M_tops_62 d m j9 x2 F y x k s) fun r => bst (mV a m d) (lfP a m d j9.1 x2) 0 r.1 r.2.1 ∧ MS r.2.2.2 (pkA a row) ∧ vch 0 s r.2.2.2 ∧ r.2.2.2 129 46 = 0 := by
  have W2 := pkA_W W hr
  have K2 := pkA_K (row := row) K
  have h130 : Ab.many (pkA a row) = a.many := (pk_S (a := a) (row := row)).1 130 (by omega)
  intro F
  induction F with
  | zero => intro k y x s k0 k1 hF; omega
  | succ F ih =>
    intro k y x s k0 k1 hF hb M h46
    rw [f_M_tops_62]
    refine ok_ite (fun g => ok_some ⟨by rw [show k + 1 = 0 by omega] at hb; exact hb, M, vch_r _ _, h46⟩) (fun g => ?_)
    refine ok_call (P := fun r => ((lfP a m d j9.1 x2 k ∧ r.1 = mV a m d k) ∨ (¬ lfP a m d j9.1 x2 k ∧ r.1 = zNO)) ∧ MS r.2 (pkA a row) ∧ vch 0 s r.2 ∧ r.2 129 46 = 0) ?_ ?_
    · refine ok_ite (fun q => ok_some ⟨Or.inr ⟨fun w => q ((sb_1 b1.1 b1.2 (by omega) (by omega)).mpr w.1), rfl⟩, M, vch_r _ _, h46⟩) (fun q => ?_)
      have q1 : bitP j9.1 k := (sb_1 b1.1 b1.2 (by omega) (by omega)).mp (Classical.not_not.mp q)
      refine ok_ite (fun q => ok_some ⟨Or.inr ⟨fun w => q ((sb_0 b2.1 b2.2 (by omega) (by omega)).mpr w.2.1), rfl⟩, M, vch_r _ _, h46⟩) (fun q => ?_)
      have q2 : ¬ bitP x2 k := (sb_0 b2.1 b2.2 (by omega) (by omega)).mp (Classical.not_not.mp q)
      have hk := ht k (by omega) (by omega) q1
      refine ok_call (m_with W2 K2 m0 (by rw [pkA_M.2.2.2.2]; exact m1) hd (y := k) (by simp only [thr, h130]; exact hk) M h46) ?_
      rintro r ⟨r1, r2, r3, r4⟩
      rw [mV_c W K pkA_V (pk_q (by omega)) hd hk] at r1
      refine ok_some ⟨?_, r2, r3, r4⟩
      by_cases z : mV a m d k = zNO
      · exact Or.inr ⟨fun w => w.2.2 z, r1.trans z⟩
      · exact Or.inl ⟨⟨q1, q2, z⟩, r1⟩
    · rintro r ⟨hr1, r2, r3, r4⟩
      have hy : y = -1 ∨ 0 ≤ y := by
        rcases hb with w | w
        · exact Or.inl w.1
        · exact Or.inr (by omega)
      refine ok_call (P := fun j => (j = 1 ∧ lfP a m d j9.1 x2 k ∧ r.1 = mV a m d k ∧ (y = -1 ∨ x ≤ mV a m d k)) ∨ (j = 0 ∧ (¬ lfP a m d j9.1 x2 k ∨ (0 ≤ y ∧ mV a m d k < x)))) ?_ ?_
      · rcases hr1 with ⟨p1, p2⟩ | ⟨p1, p2⟩
        · rw [p2]
          refine ok_ite (fun q => absurd (lcm_eq.mp q) p1.2.2) (fun _ => ?_)
          refine ok_ite (fun q => ok_some (Or.inl ⟨rfl, p1, rfl, Or.inl (by omega)⟩)) (fun q => ?_)
          refine ok_ite (fun q2 => ok_some (Or.inr ⟨rfl, Or.inr ⟨by omega, lcm_lt.mp q2⟩⟩)) (fun q2 => ok_some (Or.inl ⟨rfl, p1, rfl, Or.inr ?_⟩))
          exact Int.not_lt.mp (fun w => q2 (lcm_lt.mpr w))
        · rw [p2]
          refine ok_ite (fun q => ok_some (Or.inr ⟨rfl, Or.inl p1⟩)) (fun q => absurd (lcm_eq.mpr rfl) q)
      · rintro j (⟨rfl, p1, p2, p3⟩ | ⟨rfl, p1⟩)
        · rw [if_neg (show ¬ (1 : Int) = 0 by omega), if_neg (show ¬ (1 : Int) = 0 by omega)]
          refine ok_bind (ok_some (ok_bind (ok_some (ok_grd (by (first | omega | (unfold r32; omega) | (unfold r64; omega) | (simp only [r32, r64] at *; omega))) ?_))))
          rw [p2]
          have hb' : bst (mV a m d) (lfP a m d j9.1 x2) (k + -1 + 1) k (mV a m d k) := by
            rw [show k + -1 + 1 = k by omega]; exact bst_k (by omega) (by omega) hb p1 p3
          exact ok_mono (ih (k + -1) _ _ r.2 (by omega) (by omega) (by omega) hb' r2 r4) (fun u hu => ⟨hu.1, hu.2.1, vch_t r3 hu.2.2.1 (Int.le_refl _), hu.2.2.2⟩)
        · rw [if_pos (show (0 : Int) = 0 from rfl), if_pos (show (0 : Int) = 0 from rfl)]
          refine ok_bind (ok_some (ok_bind (ok_some (ok_grd (by (first | omega | (unfold r32; omega) | (unfold r64; omega) | (simp only [r32, r64] at *; omega))) ?_))))
          have hb' : bst (mV a m d) (lfP a m d j9.1 x2) (k + -1 + 1) y x := by
            rw [show k + -1 + 1 = k by omega]
            rcases p1 with p1 | p1
            · exact bst_s hb p1
            · exact bst_n hb p1.1 p1.2
          exact ok_mono (ih (k + -1) _ _ r.2 (by omega) (by omega) (by omega) hb' r2 r4) (fun u hu => ⟨hu.1, hu.2.1, vch_t r3 hu.2.2.1 (Int.le_refl _), hu.2.2.2⟩)
end

section
variable {σ : Hp} {a a' b : Ab} {n : Nat} {B : Int} {e : Nat} {d m : Int} {row row' : Int → Int}
theorem pk_j (j : Int) : pkA a row 129 j = a 129 j := by rw [pk_q (by omega)]
theorem pkA_M : smea a (pkA a row) := ⟨pk_q (by omega), pk_q (by omega), pk_q (by omega), pk_q (by omega), by show pkA a row 129 23 = a 129 23; rw [pk_q (by omega)]⟩
theorem pkA_V : sval a (pkA a row) := ⟨pk_S, pkA_M, ⟨pk_j 16, pk_j 17⟩, fun q h1 h2 => pk_q (by omega), pk_j 29, fun i _ => ⟨by unfold Ab.what; rw [pk_q (by omega)], by unfold Ab.one; rw [pk_q (by omega)], by unfold Ab.two; rw [pk_q (by omega)]⟩, fun s _ => by unfold Ab.len; rw [pk_q (by omega)]⟩
theorem pkA_K (K : WFW a) : WFW (pkA a row) := WFW_s K ⟨pk_q (by omega), pk_q (by omega), pk_q (by omega), pk_q (by omega)⟩ pk_S
theorem pkA_pkA : pkA (pkA a row) row' = pkA a row' := by
  funext q j
  show (if q = 164 then row' j else (if q = 164 then row j else a q j)) = if q = 164 then row' j else a q j
  by_cases h : q = 164
  · rw [if_pos h, if_pos h]
  · rw [if_neg h, if_neg h, if_neg h]
/-- rows that may be -/
def rwW (a : Ab) (row : Int → Int) : Prop := ∀ d i : Int, inD d → 0 ≤ i → i < a.picks d → thr a d (row (12 * d + i)) ∧ isP a d (row (12 * d + i))
theorem mV_c (W : WFA a) (K : WFW a) (S : sval a a') (hc : a'.chos = a.chos) (hd : inD d) {y : Int} (hy : thr a d y) : mV a' m d y = mV a m d y := by
  have ech : chC a' = chC a := by unfold chC; rw [hc]
  have c1 : cin3 a (wD d y (chC a)) := wD_in hd hy (chC_in W)
  have see : ∀ d' z : Int, seeP a' d' z ↔ seeP a d' z := fun d' z => seeP_c (sm_p S.1) (S.1.1 136 (by omega)) (S.1.1 134 (by omega)) (by rw [show Ab.kind a' = a.kind from S.1.1 131 (by omega)])
  unfold mV aV
  rw [ech]
  by_cases q : seeP a 0 (wD d y (chC a)).1 ∧ seeP a 1 (wD d y (chC a)).2.1 ∧ seeP a 2 (wD d y (chC a)).2.2
  · rw [if_pos q, if_pos (by rw [see, see, see]; exact q)]; exact val_cc W K S c1
  · rw [if_neg q, if_neg (by rw [see, see, see]; exact q)]
theorem MS_s (W : WFA a) (K : WFW a) (S : sval a a') {s s' : Hp} (M : MS s a) (V : Vw s' a') (h1 : s' 161 = s 161) (h0 : s' 160 = s 160) (h2 : s' 129 38 = s 129 38) : MS s' a' := by
  have h130 : a'.many = a.many := S.1.1 130 (by omega)
  have hm := S.2.1.2.2.2.2
  refine ⟨V, by rw [h1, h2]; exact M.2.1, ?_⟩
  intro t x y m ht hx hy m0 m1
  simp only [thr, h130] at ht hx hy
  rw [hm] at m1
  have g := (show ∀ t x y m : Int, thr a 0 t → thr a 1 x → thr a 2 y → 0 ≤ m → m < a.measures → (s 161 (576 * t + 48 * x + 4 * y + m) = s 129 38 → s 160 (576 * t + 48 * x + 4 * y + m) = val a m t x y) ∧ (s 161 (6912 + 576 * t + 48 * x + 4 * y + m) = s 129 38 → lead a t x y = -1 ∧ s 160 (6912 + 576 * t + 48 * x + 4 * y + m) = who a m t x y) from M.2.2) t x y m ht hx hy m0 m1
  rw [val_cc W K S ⟨ht, hx, hy⟩, lead_c S.1, who_c S, h1, h0, h2]
  exact g
theorem MS_row (W : WFA (pkA a row)) (K : WFW a) {s : Hp} (M : MS s (pkA a row)) {i v : Int} (hr : ∀ j : Int, row' j = if j = i then v else row j) : MS (hset s 164 i v) (pkA a row') := by
  have V : Vw (hset s 164 i v) (pkA a row') := fun q j hq => by
    by_cases h : q = 164
    · subst h
      have v2 : s 164 j = row j := (M.1 164 j hq).trans (if_pos rfl)
      rw [hs_if, v2]
      exact (hr j).symm.trans (show pkA a row' 164 j = row' j from if_pos rfl).symm
    · rw [hset_ne h, pk_q h, M.1 q j hq, pk_q h]
  have S : sval (pkA a row) (pkA a row') := by
    have g := pkA_V (a := pkA a row) (row := row')
    rw [pkA_pkA] at g; exact g
  exact MS_s W (pkA_K K) S M V (hset_ne (by omega)) (hset_ne (by omega)) (by rw [hset_ne (by omega)])
/-- left to be taken -/
def lfP (a : Ab) (m d x1 x2 y : Int) : Prop := bitP x1 y ∧ ¬ bitP x2 y ∧ mV a m d y ≠ zNO
end

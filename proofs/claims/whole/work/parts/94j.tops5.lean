section
variable {σ : Hp} {a a' b : Ab} {n : Nat} {B : Int} {e : Nat} {d m : Int} {row : Int → Int}
/-- row with the first t of cr in dimension d -/
def tpR (d : Int) (row cr : Int → Int) (t : Int) : Int → Int := fun j => if 12 * d ≤ j ∧ j < 12 * d + t then cr (j - 12 * d) else row j
theorem tpR_i {cr : Int → Int} {t i : Int} (h : 0 ≤ i ∧ i < t) : tpR d row cr t (12 * d + i) = cr i := by
  unfold tpR; rw [if_pos (by omega), show 12 * d + i - 12 * d = i by omega]
theorem tpR_o {cr : Int → Int} {t j : Int} (h : ¬ (12 * d ≤ j ∧ j < 12 * d + t)) : tpR d row cr t j = row j := if_neg h
theorem tpR_W {cr : Int → Int} {t : Int} (W : WFA a) (hd : inD d) (hr : rwW a row) (t1 : t ≤ 12) (hc : ∀ i : Int, 0 ≤ i → i < t → thr a d (cr i) ∧ isP a d (cr i)) : rwW a (tpR d row cr t) := by
  intro d' i hd' i0 i1
  have pb := pck_b W hd'
  by_cases h : 12 * d ≤ 12 * d' + i ∧ 12 * d' + i < 12 * d + t
  · have e : d' = d := by omega
    subst e
    rw [tpR_i ⟨i0, by omega⟩]; exact hc i i0 (by omega)
  · rw [tpR_o h]; exact hr d' i hd' i0 i1
theorem bef_n {v : Int → Int} {x y : Int} (h1 : bef v x y) (h2 : bef v y x) : False := by
  unfold bef at h1 h2; omega
theorem bef_i {v : Int → Int} {x : Int} (h1 : bef v x x) : False := bef_n h1 h1
theorem m_tops43 (W : WFA a) (K : WFW a) (m0 : 0 ≤ m) (m1 : m < a.measures) (hd : inD d) (hr : rwW a row) {j9 : Int × Int} (b1 : 0 ≤ j9.1 ∧ j9.1 < 4096) (ht : ∀ j : Int, 0 ≤ j → bitP j9.1 j → j < 12 ∧ thr a d j ∧ isP a d j) {P : Int → Prop} (hP : ∀ y : Int, P y ↔ (0 ≤ y ∧ bitP j9.1 y ∧ mV a m d y ≠ zNO)) {cr : Int → Int} {c : Int} (A : Arr (mV a m d) P cr c) (c12 : c ≤ 12) {top : Int} (t0 : 0 ≤ top) : ∀ (F : Nat) (t x2 y : Int) (s : Hp), 0 ≤ t → t ≤ c → t ≤ top → top - t < F → 0 ≤ x2 → x2 < 4096 → (∀ j : Int, 0 ≤ j → (bitP x2 j ↔ ∃ i : Int, 0 ≤ i ∧ i < t ∧ cr i = j)) → MS s (pkA a (tpR d row cr t)) → s 129 46 = 0 → Okk (f_M_tops_43 d m top j9 F t x2 y s) fun r => r.1 = min c top ∧ MS r.2 (pkA a (tpR d row cr (min c top))) ∧ r.2 129 46 = 0 ∧ (∀ q : Nat, q ≠ 129 → q ≠ 160 → q ≠ 161 → q ≠ 164 → q ≠ 166 → r.2 q = s q) ∧ ∀ j : Int, j ≠ 46 → r.2 129 j = s 129 j := by
  have hd' := inD_b hd
  obtain ⟨a0, a1, a2, a3⟩ := A
  have hcr : ∀ i : Int, 0 ≤ i → i < c → 0 ≤ cr i ∧ cr i < 12 ∧ thr a d (cr i) ∧ isP a d (cr i) := fun i i0 i1 => by
    have g := (hP _).mp (a1 i i0 i1)
    have h := ht _ g.1 g.2.1
    exact ⟨g.1, h⟩
  intro F
  induction F with
  | zero => intro t x2 y s q0 q1 q2 hF; omega
  | succ F ih =>
    intro t x2 y s q0 q1 q2 hF b20 b21 hx2 M h46
    rw [f_M_tops_43]
    refine ok_ite (fun g => ok_some ?_) (fun g => ?_)
    · have e : min c top = t := by omega
      rw [e]; exact ⟨rfl, M, h46, fun q _ _ _ _ _ => rfl, fun j _ => rfl⟩
    · have hr2 : rwW a (tpR d row cr t) := tpR_W W hd hr (by omega) (fun i i0 i1 => (hcr i i0 (by omega)).2.2)
      have L := m_tops62 W K m0 m1 hd hr2 b1 ⟨b20, b21⟩ (fun j j0 _ hb => (ht j j0 hb).2.1) zFuel 11 (-1) (-9223372036854775808) s (by omega) (by omega) (by unfold zFuel; omega) (Or.inl ⟨rfl, fun z z0 z1 => by omega⟩) M h46
      refine ok_call L ?_
      rintro r ⟨r1, r2, r3, r4⟩
      have X : ∀ q : Nat, q ≠ 129 → q ≠ 160 → q ≠ 161 → q ≠ 164 → q ≠ 166 → r.2.2.2 q = s q := fun q h1 h2 h3 _ h5 => r3.1 q h1 h2 h3 h5
      refine ok_ite (fun g2 => ?_) (fun g2 => ok_some ?_)
      · rcases r1 with r1 | ⟨y0, y1, y2, _, y4⟩
        · omega
        have hPy : P r.1 := (hP _).mpr ⟨y0, y2.1, y2.2.2⟩
        obtain ⟨i, i0, i1, i2⟩ := a2 _ hPy
        have it : t ≤ i := Int.not_lt.mp (fun w => y2.2.1 ((hx2 _ y0).mpr ⟨i, i0, w, i2⟩))
        have lf : lfP a m d j9.1 x2 (cr t) := by
          have p := (hP _).mp (a1 t q0 (by omega))
          refine ⟨p.2.1, fun w => ?_, p.2.2⟩
          obtain ⟨k, k0, k1, k2⟩ := (hx2 _ p.1).mp w
          have w2 := a3 k t k0 k1 (by omega)
          rw [k2] at w2
          exact bef_i w2
        have hct := hcr t q0 (by omega)
        have ey : cr t = r.1 := Classical.byContradiction (fun w => by
          have w1 := y4 (cr t) (by omega) (by omega) lf w
          have w2 := a3 t i q0 (by
            by_cases z : t = i
            · rw [z, i2] at w; exact absurd rfl w
            · omega) i1
          rw [i2] at w2
          exact bef_n w1 w2)
        have tc : t < c := by omega
        refine ok_grd (by (first | omega | (unfold r32; omega) | (unfold r64; omega) | (simp only [r32, r64] at *; omega))) (ok_grd (by (first | omega | (unfold r32; omega) | (unfold r64; omega) | (simp only [r32, r64] at *; omega))) (ok_grd (by omega) (ok_grd (by (first | omega | (unfold r32; omega) | (unfold r64; omega) | (simp only [r32, r64] at *; omega))) ?_)))
        have o := or_r b20 b21 y0 y1
        have M2 : MS (hset r.2.2.2 164 (12 * d + t) r.1) (pkA a (tpR d row cr (t + 1))) := by
          refine MS_row (row := tpR d row cr t) (pkA_W W hr2) K r2 (fun j => ?_)
          unfold tpR
          by_cases z : j = 12 * d + t
          · rw [if_pos (by omega), if_pos z, z, show 12 * d + t - 12 * d = t by omega, ey]
          · rw [if_neg z]
            by_cases z2 : 12 * d ≤ j ∧ j < 12 * d + t
            · rw [if_pos z2, if_pos (by omega)]
            · rw [if_neg z2, if_neg (by omega)]
        refine ok_mono (ih (t + 1) _ r.1 _ (by omega) (by omega) (by omega) (by omega) o.1 o.2.1 (fun j j0 => ?_) M2 (by rw [hset_ne (by omega)]; exact r4)) ?_
        · rw [o.2.2 j j0, hx2 j j0]
          constructor
          · rintro (⟨i, i0, i1, i2⟩ | h)
            · exact ⟨i, i0, by omega, i2⟩
            · exact ⟨t, q0, by omega, by rw [ey, h]⟩
          · rintro ⟨i, i0, i1, i2⟩
            by_cases w : i = t
            · exact Or.inr (by rw [← i2, w, ey])
            · exact Or.inl ⟨i, i0, by omega, i2⟩
        · rintro u ⟨u1, u2, u3, u4, u5⟩
          refine ⟨u1, u2, u3, fun q h1 h2 h3 h4 h5 => ?_, fun j hj => ?_⟩
          · rw [u4 q h1 h2 h3 h4 h5, hset_ne h4]; exact X q h1 h2 h3 h4 h5
          · rw [u5 j hj, hset_ne (by omega)]; exact r3.2.1 j hj
      · rcases r1 with r1 | r1
        · have e : t = c := Classical.byContradiction (fun w => by
            have p := (hP _).mp (a1 t q0 (by omega))
            have hct := hcr t q0 (by omega)
            refine r1.2 (cr t) (by omega) (by omega) ⟨p.2.1, fun w => ?_, p.2.2⟩
            obtain ⟨k, k0, k1, k2⟩ := (hx2 _ p.1).mp w
            have w2 := a3 k t k0 k1 (by omega)
            rw [k2] at w2
            exact bef_i w2)
          have e2 : min c top = t := by omega
          rw [e2]
          exact ⟨rfl, r2, r4, X, r3.2.1⟩
        · omega
theorem m_tops (W : WFA a) (K : WFW a) (m0 : 0 ≤ m) (m1 : m < a.measures) (hd : inD d) (hr : rwW a row) {N : Int} (N0 : 0 ≤ N) (N1 : N ≤ 12) {yv : Int → Int} (hy : ∀ i : Int, 0 ≤ i → i < N → thr a d (yv i) ∧ isP a d (yv i)) (hrow : ∀ i : Int, 0 ≤ i → i < N → row (12 * d + i) = yv i) {cr : Int → Int} {c : Int} (A : Arr (mV a m d) (stP a m d yv N) cr c) (c12 : c ≤ 12) {top : Int} (t0 : 0 ≤ top) (t1 : top ≤ 12) {s : Hp} (M : MS s (pkA a row)) (h46 : s 129 46 = 0) : Okk (f_M_tops s d N m top) fun r => r.1 = min c top ∧ MS r.2 (pkA a (tpR d row cr (min c top))) ∧ r.2 129 46 = 0 ∧ (∀ q : Nat, q ≠ 129 → q ≠ 160 → q ≠ 161 → q ≠ 164 → q ≠ 166 → r.2 q = s q) ∧ ∀ j : Int, j ≠ 46 → r.2 129 j = s 129 j := by
  have e164 : ∀ j : Int, s 164 j = row j := fun j => (M.1 164 j (by unfold vwP; omega)).trans (if_pos rfl)
  unfold f_M_tops
  refine ok_call (m_tops12 (rw' := yv) hd N0 N1 (fun i i0 i1 => by rw [e164]; exact hrow i i0 i1) (fun i i0 i1 => thr12 W hd (hy i i0 i1).1)) ?_
  rintro j9 ⟨z0, z1, z2⟩
  have e0 : tpR d row cr 0 = row := by funext j; exact tpR_o (by omega)
  refine m_tops43 W K m0 m1 hd hr ⟨z0, z1⟩ (fun j j0 hb => ?_) (P := stP a m d yv N) (fun y => ?_) A c12 t0 zFuel 0 0 _ s (by omega) A.1 t0 (by unfold zFuel; omega) (by omega) (by omega) (fun j j0 => ⟨fun h => ?_, fun h => ?_⟩) (by rw [e0]; exact M) h46
  · obtain ⟨i, i0, i1, i2⟩ := (z2 j j0).mp hb
    have g := hy i i0 i1
    rw [i2] at g
    exact ⟨(thr12 W hd g.1).2, g⟩
  · constructor
    · rintro ⟨⟨i, i0, i1, i2⟩, hv⟩
      have g := (hy i i0 i1).1.1
      rw [i2] at g
      exact ⟨g, (z2 y g).mpr ⟨i, i0, i1, i2⟩, hv⟩
    · rintro ⟨y0, hb, hv⟩
      exact ⟨(z2 y y0).mp hb, hv⟩
  · have : ¬ bitP 0 j := by unfold bitP; simp
    exact absurd h this
  · obtain ⟨i, i0, i1, _⟩ := h; omega
end

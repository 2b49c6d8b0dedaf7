/-! ===== kept cells are dropped ===== -/
section
variable {σ : Hp} {a a' : Ab} {n : Nat} {B : Int} {e : Nat}
def rmS (f : Int → Int) (i c : Int) : Int → Int := fun j => if i ≤ j ∧ j < c - 1 then f (j + 1) else f j
noncomputable def drS (D : Int → Prop) : Nat → (Int → Int) → Int → (Int → Int) × Int
  | 0, f, c => (f, c)
  | k + 1, f, c => @ite _ (D (f k)) (Classical.propDecidable _) (drS D k (rmS f k c) (c - 1)) (drS D k f c)
/-- 1 where a cell stays -/
noncomputable def stay (D : Int → Prop) (f : Int → Int) : Int → Int := fun i => @ite _ (D (f i)) (Classical.propDecidable _) 0 1
theorem stay_0 {D : Int → Prop} {f : Int → Int} {i : Int} (h : D (f i)) : stay D f i = 0 := if_pos h
theorem stay_1 {D : Int → Prop} {f : Int → Int} {i : Int} (h : ¬ D (f i)) : stay D f i ≠ 0 := by unfold stay; rw [if_neg h]; omega
theorem stay_n {D : Int → Prop} {f : Int → Int} {i : Int} (h : stay D f i ≠ 0) : ¬ D (f i) := fun g => h (stay_0 g)
theorem drS_l {D : Int → Prop} {f : Int → Int} {K : Nat} : ∀ (k : Nat) (g : Int → Int) (c : Int), k ≤ K → (∀ j : Int, 0 ≤ j → j < k → g j = f j) → c = k + (nC (stay D f) K - nC (stay D f) k) → (∀ j : Nat, k ≤ j → j < K → stay D f j ≠ 0 → g (k + (nC (stay D f) j - nC (stay D f) k)) = f j) → (drS D k g c).2 = nC (stay D f) K ∧ ∀ j : Nat, j < K → stay D f j ≠ 0 → (drS D k g c).1 (nC (stay D f) j) = f j
  | 0, g, c, hk, h1, h2, h3 => by
    have z : nC (stay D f) 0 = 0 := rfl
    refine ⟨by show c = _; omega, fun j hj hs => ?_⟩
    have := h3 j (by omega) hj hs
    rw [z] at this
    rw [show nC (stay D f) j = ((0 : Nat) : Int) + (nC (stay D f) j - 0) by omega]
    exact this
  | k + 1, g, c, hk, h1, h2, h3 => by
    have ek : g k = f k := h1 k (by omega) (by omega)
    by_cases hD : D (f k)
    · have e1 : drS D (k + 1) g c = drS D k (rmS g k c) (c - 1) := by
        show @ite _ (D (g k)) (Classical.propDecidable _) _ _ = _
        rw [ek]; exact if_pos hD
      have en : nC (stay D f) (k + 1) = nC (stay D f) k := nC_n (stay_0 hD)
      rw [e1]
      refine drS_l k _ _ (by omega) (fun j j0 j1 => ?_) (by omega) (fun j hj1 hj2 hs => ?_)
      · unfold rmS; rw [if_neg (by omega)]; exact h1 j j0 (by omega)
      · have hjk : j ≠ k := fun q => by rw [q] at hs; exact hs (stay_0 hD)
        have := h3 j (by omega) hj2 hs
        have hb := nC_le (stay D f) (j + 1) (K - (j + 1))
        rw [show j + 1 + (K - (j + 1)) = K by omega, nC_y hs] at hb
        have hb2 := nC_le (stay D f) (k + 1) (j - (k + 1))
        rw [show k + 1 + (j - (k + 1)) = j by omega] at hb2
        unfold rmS
        rw [if_pos (by omega), ← this]
        congr 1
        omega
    · have e1 : drS D (k + 1) g c = drS D k g c := by
        show @ite _ (D (g k)) (Classical.propDecidable _) _ _ = _
        rw [ek]; exact if_neg hD
      have en : nC (stay D f) (k + 1) = nC (stay D f) k + 1 := nC_y (stay_1 hD)
      rw [e1]
      refine drS_l k g c (by omega) (fun j j0 j1 => h1 j j0 (by omega)) (by omega) (fun j hj1 hj2 hs => ?_)
      by_cases hjk : j = k
      · rw [hjk, show (k : Int) + (nC (stay D f) k - nC (stay D f) k) = k by omega]; exact ek
      · have := h3 j (by omega) hj2 hs
        rw [← this]
        congr 1
        omega
/-- every place that is left is one that stayed -/
theorem nC_sur {c : Int → Int} : ∀ (K : Nat) (p : Int), 0 ≤ p → p < nC c K → ∃ i : Nat, i < K ∧ c i ≠ 0 ∧ nC c i = p
  | 0, p, h0, h1 => by
    have : nC c 0 = 0 := rfl
    omega
  | K + 1, p, h0, h1 => by
    by_cases h : c K = 0
    · rw [nC_n h] at h1
      obtain ⟨i, i1, i2, i3⟩ := nC_sur K p h0 h1
      exact ⟨i, by omega, i2, i3⟩
    · rw [nC_y h] at h1
      by_cases q : p = nC c K
      · exact ⟨K, by omega, h, q.symm⟩
      · obtain ⟨i, i1, i2, i3⟩ := nC_sur (c := c) K p h0 (by omega)
        exact ⟨i, by omega, i2, i3⟩
def dropP (a : Ab) (pt px py fm c : Int) : Prop := 0 ≤ lead a (c / 576) (c / 48 % 12) (c / 4 % 12) ∨ (nds a (c % 4) fm ∧ cnt a pt px py (c / 576) (c / 48 % 12) (c / 4 % 12) ≠ 0)
/-- with these cells kept -/
def stA (a : Ab) (g : Int → Int) (c : Int) : Ab := fun q j => if q = 162 then g j else if q = 129 ∧ j = 40 then c else a q j
theorem sA_q {g : Int → Int} {c : Int} {q : Nat} (h : q ≠ 129) (h2 : q ≠ 162) : stA a g c q = a q := by
  funext j; unfold stA; rw [if_neg h2, if_neg (fun x => h x.1)]
theorem sA_j {g : Int → Int} {c j : Int} (h : j ≠ 40) : stA a g c 129 j = a 129 j := by
  unfold stA; rw [if_neg (by omega), if_neg (fun x => h x.2)]
theorem sA_k {g : Int → Int} {c : Int} : Ab.keeps (stA a g c) = c := by
  show stA a g c 129 40 = c; unfold stA; rw [if_neg (by omega), if_pos ⟨rfl, rfl⟩]
theorem sA_g {g : Int → Int} {c : Int} : Ab.kept (stA a g c) = g := by
  funext j; show stA a g c 162 j = g j; unfold stA; rw [if_pos rfl]
theorem sA_S {g : Int → Int} {c : Int} : smem a (stA a g c) := ⟨fun q hq => sA_q (by omega) (by omega), sA_j (by omega)⟩
theorem sA_M {g : Int → Int} {c : Int} : smea a (stA a g c) := ⟨sA_q (by omega) (by omega), sA_q (by omega) (by omega), sA_q (by omega) (by omega), sA_q (by omega) (by omega), sA_j (by omega)⟩
theorem sA_F {g : Int → Int} {c : Int} : sfac a (stA a g c) := ⟨fun q h1 h2 => sA_q (by omega) (by omega), sA_j (by omega), sA_j (by omega)⟩
theorem sA_P {g : Int → Int} {c : Int} : spk a (stA a g c) := ⟨sA_q (by omega) (by omega), sA_q (by omega) (by omega), sA_q (by omega) (by omega)⟩
theorem sA_D {g : Int → Int} {c : Int} : swd a (stA a g c) := ⟨sA_q (by omega) (by omega), sA_q (by omega) (by omega), sA_q (by omega) (by omega), sA_q (by omega) (by omega)⟩
theorem sA_h {g : Int → Int} {c : Int} : (Ab.asNow (stA a g c) = a.asNow ∧ Ab.leave (stA a g c) = a.leave) ∧ Ab.hits (stA a g c) = a.hits := ⟨⟨sA_j (by omega), sA_j (by omega)⟩, sA_j (by omega)⟩
theorem sA_V {g : Int → Int} {c : Int} : sval a (stA a g c) := ⟨sA_S, sA_M, sA_h.1, fun q h1 h2 => sA_q (by omega) (by omega), sA_j (by omega), fun i _ => ⟨by unfold Ab.what; rw [sA_q (by omega) (by omega)], by unfold Ab.one; rw [sA_q (by omega) (by omega)], by unfold Ab.two; rw [sA_q (by omega) (by omega)]⟩, fun s _ => by unfold Ab.len; rw [sA_q (by omega) (by omega)]⟩
/-- a code of a cell that is there -/
def wk (a : Ab) (c : Int) : Prop := ∃ t x y m : Int, cin a t x y ∧ 0 ≤ m ∧ m < a.measures ∧ c = 576 * t + 48 * x + 4 * y + m
theorem wk_d (W : WFA a) {c : Int} (h : wk a c) : cin a (c / 576) (c / 48 % 12) (c / 4 % 12) ∧ 0 ≤ c % 4 ∧ c % 4 < a.measures ∧ 0 ≤ c ∧ c = 576 * (c / 576) + 48 * (c / 48 % 12) + 4 * (c / 4 % 12) + c % 4 := by
  obtain ⟨t, x, y, m, h1, m0, m1, e⟩ := h
  have t12 := thr12 W iD0 h1.1
  have x12 := thr12 W iD1 h1.2.1
  have y12 := thr12 W iD2 h1.2.2
  have m4 := (mea W m0 m1).1
  have e1 : c / 576 = t := by omega
  have e2 : c / 48 % 12 = x := by omega
  have e3 : c / 4 % 12 = y := by omega
  have e4 : c % 4 = m := by omega
  rw [e1, e2, e3, e4]
  exact ⟨h1, m0, m1, by omega, e⟩
theorem sA_W (W : WFA a) {g : Int → Int} {c : Int} (h0 : 0 ≤ c) (h1 : c ≤ 20) (hk : ∀ j : Int, 0 ≤ j → j < c → wk a (g j)) : WFA (stA a g c) := by
  refine WFA_by W sA_S (wfa_8 W sA_h.1.1 sA_h.1.2) sA_M sA_F ?_ (wfa_p W sA_S sA_P) (by unfold Ab.len; rw [sA_q (by omega) (by omega)])
  refine (show 0 ≤ Ab.keeps (stA a g c) ∧ Ab.keeps (stA a g c) ≤ 20 ∧ _ from ⟨by rw [sA_k]; exact h0, by rw [sA_k]; exact h1, fun k k0 k1 => ?_⟩)
  rw [sA_k] at k1
  obtain ⟨t, x, y, m, q1, q2, q3, q4⟩ := hk k k0 k1
  have h130 : Ab.many (stA a g c) = a.many := sA_S.1 130 (by omega)
  refine ⟨t, x, y, m, ?_⟩
  rw [sA_g, sA_M.2.2.2.2]
  simp only [thr, h130]
  exact ⟨q1.1, q1.2.1, q1.2.2, q2, q3, q4⟩
theorem wk_k (W : WFA a) {k : Int} (k0 : 0 ≤ k) (k1 : k < a.keeps) : wk a (a.kept k) := by
  have h14 : 0 ≤ a.keeps ∧ a.keeps ≤ 20 ∧ ∀ k : Int, 0 ≤ k → k < a.keeps → ∃ t x y m : Int, thr a 0 t ∧ thr a 1 x ∧ thr a 2 y ∧ 0 ≤ m ∧ m < a.measures ∧ a.kept k = 576 * t + 48 * x + 4 * y + m := W 14
  obtain ⟨t, x, y, m, q1, q2, q3, q4, q5, q6⟩ := h14.2.2 k k0 k1
  exact ⟨t, x, y, m, ⟨q1, q2, q3⟩, q4, q5, q6⟩
/-! the reference's needs -/
theorem pow16 {k : Int} (k0 : 0 ≤ k) (k1 : k < 4) : 0 ≤ ishl 1 k ∧ ishl 1 k < 16 ∧ ∀ o : Int, 0 ≤ o → (bitP (ishl 1 k) o ↔ o = k) := by
  rw [shl_e k0 (by omega)]
  refine ⟨Int.pow_nonneg (by omega), ?_, fun o o0 => pow_bit k0 o0⟩
  have e4 : k = 0 ∨ k = 1 ∨ k = 2 ∨ k = 3 := by omega
  rcases e4 with e4 | e4 | e4 | e4 <;> rw [e4] <;> decide
theorem e_M_needs_7 (W : WFA a) (V : Vw σ a) {m : Int} (m0 : 0 ≤ m) (m1 : m < a.measures) : ∀ (F : Nat) (k x : Int), -1 ≤ k → k < a.measures → k + 1 < F → 0 ≤ x → x < 16 → bitP x m → (∀ o : Int, 0 ≤ o → bitP x o → o < a.measures ∧ nds a m o) → (∀ j : Int, k < j → j < a.measures → 0 ≤ j → bitP x j → a.mk j = 3 → bitP x (a.ma j) ∧ bitP x (a.mb j)) → Okk (f_M_needs_7 σ F x k) fun r => 0 ≤ r.1 ∧ r.1 < 16 ∧ ∀ o : Int, 0 ≤ o → (bitP r.1 o ↔ nds a m o ∧ o < a.measures) := by
  have m4 := (mea W m0 m1).1
  have h10 : 0 ≤ a.measures ∧ a.measures ≤ 4 ∧ _ := W 10
  intro F
  induction F with
  | zero => intro k x k0 k1 hF; omega
  | succ F ih =>
    intro k x k0 k1 hF x0 x1 hm hs hc
    rw [f_M_needs_7]
    refine ok_ite (fun g => ok_some ⟨x0, x1, fun o o0 => ⟨fun q => ⟨(hs o o0 q).2, (hs o o0 q).1⟩, fun q => ?_⟩⟩) (fun g => ?_)
    · have L : ∀ (j : Nat) (i : Int), 0 ≤ i → i < a.measures → i < j → bitP x i → nds a i o → bitP x o := by
        intro j
        induction j with
        | zero => intro i i0 i1 ij; omega
        | succ j ihj =>
          intro i i0 i1 ij hb hn
          rcases (nds_s W i0 i1).mp hn with e | ⟨e3, e⟩
          · rw [← e]; exact hb
          · have hab := (mea W i0 i1).2.2.2 e3
            have h2 := hc i (by omega) i1 i0 hb e3
            rcases e with e | e
            · exact ihj _ (by omega) (by omega) (by omega) h2.1 e
            · exact ihj _ (by omega) (by omega) (by omega) h2.2 e
      exact L 5 m m0 m1 (by omega) hm q.1
    · have kk0 : 0 ≤ k := by omega
      have hk4 := (mea W kk0 k1).1
      have e := sb_1 x0 (by omega : x < 4096) kk0 (by omega : k < 13)
      refine ok_call (P := fun r => r = bI (bitP x k ∧ a.mk k = 3)) ?_ ?_
      · refine ok_ite (fun q => ok_some (bI_f (fun p => q (e.mpr p.1))).symm) (fun q => ok_grd (by omega) ?_)
        rw [w_mk V]
        exact ok_ite (fun q2 => ok_some (bI_f (fun p => q2 p.2)).symm) (fun q2 => ok_some (bI_t ⟨e.mp (Classical.not_not.mp q), Classical.not_not.mp q2⟩).symm)
      · rintro r rfl
        by_cases h3 : bitP x k ∧ a.mk k = 3
        · have hab := (mea W kk0 k1).2.2.2 h3.2
          have pa := pow16 hab.1 (by omega : a.ma k < 4)
          have pb := pow16 hab.2.2.1 (by omega : a.mb k < 4)
          have o1 := orn_r pa.1 pa.2.1 pb.1 pb.2.1
          have o2 := orn_r x0 x1 o1.1 o1.2.1
          have B2 : ∀ o : Int, 0 ≤ o → (bitP (ior x (ior (ishl 1 (a.ma k)) (ishl 1 (a.mb k)))) o ↔ bitP x o ∨ o = a.ma k ∨ o = a.mb k) := fun o o0 => by
            rw [o2.2.2 o o0, o1.2.2 o o0, pa.2.2 o o0, pb.2.2 o o0]
          rw [bI_t h3, if_neg (by omega), w_ma V, w_mb V]
          refine ok_bind (ok_grd (by omega) (ok_grd (by omega) (ok_some (ok_grd (by (first | omega | (unfold r32; omega) | (unfold r64; omega) | (simp only [r32, r64] at *; omega))) ?_))))
          have nk := (hs k kk0 h3.1).2
          have nt := nds_t W kk0 k1 h3.2 5 m m0 m1 (by omega) nk
          refine ih (k + (-1)) _ (by omega) (by omega) (by omega) o2.1 o2.2.1 ((B2 m m0).mpr (Or.inl hm)) (fun o o0 q => ?_) (fun j j0 j1 j2 q q3 => ?_)
          · rcases (B2 o o0).mp q with q | q | q
            · exact hs o o0 q
            · rw [q]; exact ⟨by omega, nt.1⟩
            · rw [q]; exact ⟨by omega, nt.2⟩
          · have hjm := (mea W j2 j1).2.2.2 q3
            by_cases ej : j = k
            · rw [ej]; exact ⟨(B2 _ (by omega)).mpr (Or.inr (Or.inl rfl)), (B2 _ (by omega)).mpr (Or.inr (Or.inr rfl))⟩
            · rcases (B2 j j2).mp q with q | q | q
              · have h2 := hc j (by omega) j1 j2 q q3
                exact ⟨(B2 _ (by omega)).mpr (Or.inl h2.1), (B2 _ (by omega)).mpr (Or.inl h2.2)⟩
              · omega
              · omega
        · have z := orn_r x0 x1 (by omega : (0 : Int) ≤ 0) (by omega : (0 : Int) < 16)
          have b0 : ∀ o : Int, ¬ bitP 0 o := fun o => by unfold bitP; simp
          have B2 : ∀ o : Int, 0 ≤ o → (bitP (ior x 0) o ↔ bitP x o) := fun o o0 => by
            rw [z.2.2 o o0]; exact ⟨fun q => q.resolve_right (b0 o), Or.inl⟩
          rw [bI_f h3, if_pos rfl]
          refine ok_bind (ok_some (ok_grd (by (first | omega | (unfold r32; omega) | (unfold r64; omega) | (simp only [r32, r64] at *; omega))) ?_))
          refine ih (k + (-1)) _ (by omega) (by omega) (by omega) z.1 z.2.1 ((B2 m m0).mpr hm) (fun o o0 q => hs o o0 ((B2 o o0).mp q)) (fun j j0 j1 j2 q q3 => ?_)
          have hjm := (mea W j2 j1).2.2.2 q3
          have qx := (B2 j j2).mp q
          by_cases ej : j = k
          · rw [ej] at qx q3; exact absurd ⟨qx, q3⟩ h3
          · have h2 := hc j (by omega) j1 j2 qx q3
            exact ⟨(B2 _ (by omega)).mpr h2.1, (B2 _ (by omega)).mpr h2.2⟩
theorem e_M_needs (W : WFA a) (V : Vw σ a) {m o : Int} (m0 : 0 ≤ m) (m1 : m < a.measures) (o0 : 0 ≤ o) (o1 : o < a.measures) : f_M_needs σ m o = some (bI (nds a m o)) := by
  have m4 := (mea W m0 m1).1
  have o4 := (mea W o0 o1).1
  have p := pow16 m0 m4
  unfold f_M_needs; apply ok_eq
  refine ok_call (e_M_needs_7 W V m0 m1 zFuel m (ishl 1 m) (by omega) m1 (by unfold zFuel; omega) p.1 p.2.1 ((p.2.2 m m0).mpr rfl) (fun o o0 q => ?_) (fun j j0 j1 j2 q _ => ?_)) ?_
  · have := (p.2.2 o o0).mp q
    rw [this]; exact ⟨m1, (nds_s W m0 m1).mpr (Or.inl rfl)⟩
  · have := (p.2.2 j j2).mp q
    omega
  · rintro r ⟨r0, r1, r2⟩
    have e := sb_1 r0 (by omega : r.1 < 4096) o0 (by omega : o < 13)
    refine ok_call (P := fun s => s = bI (nds a m o)) ?_ (fun s hs => by rw [hs]; exact ok_grd (bI_r _) (ok_some rfl))
    exact ok_ite (fun q => ok_some (bI_f (fun g => q (e.mpr ((r2 o o0).mpr ⟨g, o1⟩)))).symm) (fun q => ok_some (bI_t ((r2 o o0).mp (e.mp (Classical.not_not.mp q))).1).symm)
/-! the reference drops -/
def mch (σ σ' : Hp) : Prop := (∀ q : Nat, q ≠ 129 → q ≠ 162 → σ' q = σ q) ∧ ∀ j : Int, j ≠ 40 → σ' 129 j = σ 129 j
theorem mch_r (σ : Hp) : mch σ σ := ⟨fun _ _ _ => rfl, fun _ _ => rfl⟩
theorem mch_t {σ σ' σ'' : Hp} (h1 : mch σ σ') (h2 : mch σ' σ'') : mch σ σ'' := ⟨fun q a b => (h2.1 q a b).trans (h1.1 q a b), fun j hj => (h2.2 j hj).trans (h1.2 j hj)⟩
/-- the reference's cells but those kept -/
theorem Vw_st {g : Int → Int} {c : Int} {s : Hp} (V : Vw σ a) (h : mch σ s) (h1 : ∀ j : Int, s 162 j = g j) (h2 : s 129 40 = c) : Vw s (stA a g c) := by
  intro q j hq
  unfold stA
  by_cases e : q = 162
  · rw [if_pos e, e]; exact h1 j
  · rw [if_neg e]
    by_cases e2 : q = 129 ∧ j = 40
    · rw [if_pos e2, e2.1, e2.2]; exact h2
    · rw [if_neg e2]
      by_cases e3 : q = 129
      · rw [e3, h.2 j (fun g => e2 ⟨e3, g⟩), ← e3]; exact V q j hq
      · rw [h.1 q e3 e]; exact V q j hq
theorem e_M_remove_12 {s0 : Hp} {g : Int → Int} {c i : Int} (i0 : 0 ≤ i) (c1 : c ≤ 20) : ∀ (F : Nat) (y : Int) (s : Hp), i ≤ y → y ≤ c → c - y < F → mch s0 s → s 129 40 = c → (∀ j : Int, s 162 j = if i ≤ j ∧ j < y then g (j + 1) else g j) → Okk (f_M_remove_12 F y s) fun r => mch s0 r.2 ∧ r.2 129 40 = c ∧ ∀ j : Int, r.2 162 j = if i ≤ j ∧ j < c then g (j + 1) else g j := by
  intro F
  induction F with
  | zero => intro y s h1 h2 hF; omega
  | succ F ih =>
    intro y s h1 h2 hF hm hc hg
    rw [f_M_remove_12, hc]
    refine ok_ite (fun h => ok_some ⟨hm, hc, fun j => by dsimp only; rw [hg j, show y = c by omega]⟩) (fun h => ok_grd (by (first | omega | (unfold r32; omega) | (unfold r64; omega) | (simp only [r32, r64] at *; omega))) (ok_grd (by omega) (ok_grd (by omega) (ok_grd (by (first | omega | (unfold r32; omega) | (unfold r64; omega) | (simp only [r32, r64] at *; omega))) ?_))))
    refine ih (y + 1) _ (by omega) (by omega) (by omega) (mch_t hm ⟨fun q a b => hset_ne b, fun j hj => by rw [hset_ne (by omega)]⟩) (by rw [hset_ne (by omega)]; exact hc) (fun j => ?_)
    have hy1 : s 162 (y + 1) = g (y + 1) := by rw [hg (y + 1)]; exact if_neg (by omega)
    rw [hs_if, hy1]
    by_cases e : j = y
    · rw [if_pos e, if_pos (by omega), e]
    · rw [if_neg e, hg j]
      by_cases e2 : i ≤ j ∧ j < y
      · rw [if_pos e2, if_pos (by omega)]
      · rw [if_neg e2, if_neg (by omega)]
theorem e_M_remove {s : Hp} {g : Int → Int} {c i : Int} (i0 : 0 ≤ i) (ic : i < c) (c1 : c ≤ 21) (hc : s 129 40 = c) (hg : ∀ j : Int, s 162 j = g j) : Okk (f_M_remove s i) fun r => mch s r ∧ r 129 40 = c - 1 ∧ ∀ j : Int, r 162 j = rmS g i c j := by
  unfold f_M_remove
  rw [hc]
  refine ok_grd (by (first | omega | (unfold r32; omega) | (unfold r64; omega) | (simp only [r32, r64] at *; omega))) (ok_call (e_M_remove_12 (s0 := s) (g := g) (c := c - 1) i0 (by omega) zFuel i (hset s 129 40 (c - 1)) (by omega) (by omega) (by unfold zFuel; omega) ⟨fun q a b => hset_ne a, fun j hj => hs_nj hj⟩ hs_eq (fun j => by rw [hset_ne (by omega), hg, if_neg (by omega)])) ?_)
  rintro r ⟨r1, r2, r3⟩
  exact ok_some ⟨r1, r2, r3⟩
theorem e_M_drop_17 (W : WFA a) (V : Vw σ a) {f : Int} (f0 : 0 ≤ f) (f1 : f < a.facts) : ∀ (F k : Nat) (g : Int → Int) (c : Int) (s : Hp), k < F → (k : Int) ≤ c → c ≤ 20 → (∀ j : Int, 0 ≤ j → j < c → wk a (g j)) → mch σ s → (∀ j : Int, s 162 j = g j) → s 129 40 = c → Okk (f_M_drop_17 f F ((k : Int) - 1) s) fun r => mch σ r.2 ∧ (∀ j : Int, r.2 162 j = (drS (dropP a (a.ft f) (a.fa f) (a.fb f) (a.fm f)) k g c).1 j) ∧ r.2 129 40 = (drS (dropP a (a.ft f) (a.fa f) (a.fb f) (a.fm f)) k g c).2 := by
  have hf := fct W f0 f1
  intro F
  induction F with
  | zero => intro k g c s hF; omega
  | succ F ih =>
    intro k g c s hF hk hc hw hm hg h40
    rw [f_M_drop_17]
    match k with
    | 0 => rw [if_pos (by omega)]; exact ok_some ⟨hm, hg, h40⟩
    | k + 1 =>
      have hk1 : ((k + 1 : Nat) : Int) - 1 = (k : Int) := by omega
      rw [hk1, if_neg (by omega), hg]
      have wg := wk_d W (hw k (by omega) (by omega))
      obtain ⟨d1, d2, d3, d4, d5⟩ := wg
      have V1 : Vw s (stA a g c) := Vw_st V hm hg h40
      have W1 : WFA (stA a g c) := sA_W W (by omega) hc hw
      have t12 := thr12 W iD0 d1.1
      have x12 := thr12 W iD1 d1.2.1
      have y12 := thr12 W iD2 d1.2.2
      have e1 : (g k).tdiv 576 = g k / 576 := Int.tdiv_eq_ediv_of_nonneg d4
      have e2 : (g k).tdiv 48 = g k / 48 := Int.tdiv_eq_ediv_of_nonneg d4
      have e3 : (g k).tdiv 4 = g k / 4 := Int.tdiv_eq_ediv_of_nonneg d4
      have e4 : (g k / 48).tmod 12 = g k / 48 % 12 := Int.tmod_eq_emod_of_nonneg (by omega)
      have e5 : (g k / 4).tmod 12 = g k / 4 % 12 := Int.tmod_eq_emod_of_nonneg (by omega)
      have e6 : (g k).tmod 4 = g k % 4 := Int.tmod_eq_emod_of_nonneg d4
      rw [e1, e2, e3, e4, e5, e6]
      have h131 : Ab.kind (stA a g c) = a.kind := sA_S.1 131 (by omega)
      have kd : ∀ i : Int, s 131 i = a.kind i := fun i => by rw [w_kind V1, h131]
      simp only [kd]
      have ih' : ∀ (g' : Int → Int) (c' : Int) (s' : Hp), (k : Int) ≤ c' → c' ≤ 20 → (∀ j : Int, 0 ≤ j → j < c' → wk a (g' j)) → mch σ s' → (∀ j : Int, s' 162 j = g' j) → s' 129 40 = c' → drS (dropP a (a.ft f) (a.fa f) (a.fb f) (a.fm f)) (k + 1) g c = drS (dropP a (a.ft f) (a.fa f) (a.fb f) (a.fm f)) k g' c' → Okk (grd (r32 ((k : Int) + (-1))) <| f_M_drop_17 f F ((k : Int) + (-1)) s') fun r => mch σ r.2 ∧ (∀ j : Int, r.2 162 j = (drS (dropP a (a.ft f) (a.fa f) (a.fb f) (a.fm f)) (k + 1) g c).1 j) ∧ r.2 129 40 = (drS (dropP a (a.ft f) (a.fa f) (a.fb f) (a.fm f)) (k + 1) g c).2 := by
        intro g' c' s' q1 q2 q3 q4 q5 q6 q7
        rw [q7]
        refine ok_grd (by (first | omega | (unfold r32; omega) | (unfold r64; omega) | (simp only [r32, r64] at *; omega))) ?_
        rw [show (k : Int) + (-1) = (k : Int) - 1 by omega]
        exact ih k g' c' s' (by omega) q1 q2 q3 q4 q5 q6
      have S : drS (dropP a (a.ft f) (a.fa f) (a.fb f) (a.fm f)) (k + 1) g c = @ite _ (dropP a (a.ft f) (a.fa f) (a.fb f) (a.fm f) (g k)) (Classical.propDecidable _) (drS (dropP a (a.ft f) (a.fa f) (a.fb f) (a.fm f)) k (rmS g k c) (c - 1)) (drS (dropP a (a.ft f) (a.fa f) (a.fb f) (a.fm f)) k g c) := rfl
      have yes : dropP a (a.ft f) (a.fa f) (a.fb f) (a.fm f) (g k) → ∀ s' : Hp, mch s s' → s' 129 40 = c - 1 → (∀ j : Int, s' 162 j = rmS g k c j) → Okk (grd (r32 ((k : Int) + (-1))) <| f_M_drop_17 f F ((k : Int) + (-1)) s') fun r => mch σ r.2 ∧ (∀ j : Int, r.2 162 j = (drS (dropP a (a.ft f) (a.fa f) (a.fb f) (a.fm f)) (k + 1) g c).1 j) ∧ r.2 129 40 = (drS (dropP a (a.ft f) (a.fa f) (a.fb f) (a.fm f)) (k + 1) g c).2 := by
        intro hD s' q1 q2 q3
        refine ih' (rmS g k c) (c - 1) s' (by omega) (by omega) (fun j j0 j1 => ?_) (mch_t hm q1) q3 q2 (by rw [S]; exact if_pos hD)
        unfold rmS
        by_cases e : (k : Int) ≤ j ∧ j < c - 1
        · rw [if_pos e]; exact hw (j + 1) (by omega) (by omega)
        · rw [if_neg e]; exact hw j j0 (by omega)
      have no : ¬ dropP a (a.ft f) (a.fa f) (a.fb f) (a.fm f) (g k) → Okk (grd (r32 ((k : Int) + (-1))) <| f_M_drop_17 f F ((k : Int) + (-1)) s) fun r => mch σ r.2 ∧ (∀ j : Int, r.2 162 j = (drS (dropP a (a.ft f) (a.fa f) (a.fb f) (a.fm f)) (k + 1) g c).1 j) ∧ r.2 129 40 = (drS (dropP a (a.ft f) (a.fa f) (a.fb f) (a.fm f)) (k + 1) g c).2 := fun hD => ih' g c s (by omega) hc hw hm hg h40 (by rw [S]; exact if_neg hD)
      have rem := e_M_remove (s := s) (g := g) (c := c) (i := k) (by omega) (by omega) (by omega) h40 hg
      refine ok_grd (by omega) (ok_grd (by omega) (ok_grd (by omega) (ok_grd (by omega) (ok_grd (by omega) (ok_grd (by omega) (ok_grd (by omega) (ok_grd (by omega) (ok_grd (by omega) ?_))))))))
      refine ok_call (P := fun r => r = bI (0 ≤ lead a (g k / 576) (g k / 48 % 12) (g k / 4 % 12))) ?_ ?_
      · have L := lead_d W d1
        have LN : (a.kind (g k / 576) ≠ 2 → a.kind (12 + g k / 48 % 12) ≠ 2 → a.kind (24 + g k / 4 % 12) ≠ 2 → lead a (g k / 576) (g k / 48 % 12) (g k / 4 % 12) = -1) := by
          intro k1 k2 k3
          rcases L with L | L
          · exact L.1
          · exfalso
            have hk' := L.2.2
            rcases L.1 with e | e | e <;> rw [e] at hk'
            · exact k1 (by rw [show g k / 576 = 12 * 0 + g k / 576 by omega]; exact hk')
            · exact k2 (by rw [show 12 + g k / 48 % 12 = 12 * 1 + g k / 48 % 12 by omega]; exact hk')
            · exact k3 (by rw [show 24 + g k / 4 % 12 = 12 * 2 + g k / 4 % 12 by omega]; exact hk')
        have LP : (a.kind (g k / 576) = 2 ∨ a.kind (12 + g k / 48 % 12) = 2 ∨ a.kind (24 + g k / 4 % 12) = 2) → 0 ≤ lead a (g k / 576) (g k / 48 % 12) (g k / 4 % 12) := by
          intro q
          rcases L with L | L
          · exfalso
            rcases q with q | q | q
            · exact L.2.1 (by rw [show 12 * 0 + g k / 576 = g k / 576 by omega]; exact q)
            · exact L.2.2.1 (by rw [show 12 * 1 + g k / 48 % 12 = 12 + g k / 48 % 12 by omega]; exact q)
            · exact L.2.2.2 (by rw [show 12 * 2 + g k / 4 % 12 = 24 + g k / 4 % 12 by omega]; exact q)
          · exact L.2.1
        refine ok_ite (fun q => ok_some (bI_t (LP (Or.inl q))).symm) (fun q1 => ok_grd (by (first | omega | (unfold r32; omega) | (unfold r64; omega) | (simp only [r32, r64] at *; omega))) (ok_grd (by omega) (ok_ite (fun q => ok_some (bI_t (LP (Or.inr (Or.inl q)))).symm) (fun q2 => ok_grd (by (first | omega | (unfold r32; omega) | (unfold r64; omega) | (simp only [r32, r64] at *; omega))) (ok_grd (by omega) (ok_ite (fun q3 => ok_some (bI_f (by rw [LN q1 q2 q3]; omega)).symm) (fun q3 => ok_some (bI_t (LP (Or.inr (Or.inr (Classical.not_not.mp q3))))).symm)))))))
      · rintro r rfl
        by_cases hl : 0 ≤ lead a (g k / 576) (g k / 48 % 12) (g k / 4 % 12)
        · rw [bI_t hl, if_pos (by omega)]
          refine ok_bind (ok_call rem ?_)
          rintro s' ⟨q1, q2, q3⟩
          exact ok_some (yes (Or.inl hl) s' q1 q2 q3)
        · rw [bI_f hl, if_neg (by omega)]
          have h153 : Ab.fm (stA a g c) = a.fm := sA_F.1 153 (by omega) (by omega)
          have h150 : Ab.ft (stA a g c) = a.ft := sA_F.1 150 (by omega) (by omega)
          have h151 : Ab.fa (stA a g c) = a.fa := sA_F.1 151 (by omega) (by omega)
          have h152 : Ab.fb (stA a g c) = a.fb := sA_F.1 152 (by omega) (by omega)
          have h130 : Ab.many (stA a g c) = a.many := sA_S.1 130 (by omega)
          have hme : Ab.measures (stA a g c) = a.measures := sA_M.2.2.2.2
          rw [w_fm V1, h153]
          refine ok_bind (ok_grd (by omega) (ok_grd (by omega) (ok_grd (by omega) (ok_eqb (e_M_needs W1 V1 d2 (by rw [hme]; exact d3) hf.2.2.2.1 (by rw [hme]; exact hf.2.2.2.2.1)) ?_))))
          by_cases hn : nds a (g k % 4) (a.fm f)
          · rw [bI_t ((nds_c sA_M _ _).mpr hn), if_neg (by omega)]
            have hct := e_M_counts W1 V1 (f := f) (t := g k / 576) (x := g k / 48 % 12) (y := g k / 4 % 12) f0 (by rw [sA_F.2.1]; exact f1) (by simp only [thr, h130]; exact d1.1) (by simp only [thr, h130]; exact d1.2.1) (by simp only [thr, h130]; exact d1.2.2)
            rw [h150, h151, h152, cnt_c sA_S sA_h.1] at hct
            refine ok_eqb hct (ok_ite (fun q => ok_some (no (fun p => ?_))) (fun q => ok_call rem ?_))
            · rcases p with p | p
              · exact hl p
              · exact p.2 q
            · rintro s' ⟨q1, q2, q3⟩
              exact ok_some (yes (Or.inr ⟨hn, q⟩) s' q1 q2 q3)
          · rw [bI_f (fun q => hn ((nds_c sA_M _ _).mp q)), if_pos rfl]
            refine ok_some (no (fun p => ?_))
            rcases p with p | p
            · exact hl p
            · exact hn p.1
/-- what is left of the kept cells where a fact of this place and measure changes -/
noncomputable def drA (a : Ab) (pt px py fm : Int) : Ab := stA a (drS (dropP a pt px py fm) a.keeps.toNat a.kept a.keeps).1 (drS (dropP a pt px py fm) a.keeps.toNat a.kept a.keeps).2
theorem drA_l (W : WFA a) (pt px py fm : Int) : Ab.keeps (drA a pt px py fm) = nC (stay (dropP a pt px py fm) a.kept) a.keeps.toNat ∧ ∀ j : Nat, (j : Int) < a.keeps → stay (dropP a pt px py fm) a.kept j ≠ 0 → Ab.kept (drA a pt px py fm) (nC (stay (dropP a pt px py fm) a.kept) j) = a.kept j := by
  have h14 : 0 ≤ a.keeps ∧ a.keeps ≤ 20 ∧ _ := W 14
  have L := drS_l (D := dropP a pt px py fm) (f := a.kept) (K := a.keeps.toNat) a.keeps.toNat a.kept a.keeps (Nat.le_refl _) (fun _ _ _ => rfl) (by omega) (fun j h1 h2 _ => by omega)
  unfold drA
  rw [sA_k, sA_g]
  exact ⟨L.1, fun j hj hs => L.2 j (by omega) hs⟩
theorem e_M_drop (W : WFA a) (V : Vw σ a) {f : Int} (f0 : 0 ≤ f) (f1 : f < a.facts) (h38 : r32 (σ 129 38 + 1)) : Okk (f_M_drop σ f) fun s => Vw s (drA a (a.ft f) (a.fa f) (a.fb f) (a.fm f)) ∧ (∀ q : Nat, q ≠ 129 → q ≠ 162 → s q = σ q) ∧ (∀ j : Int, j ≠ 40 → j ≠ 38 → s 129 j = σ 129 j) ∧ s 129 38 = σ 129 38 + 1 := by
  have h14 : 0 ≤ a.keeps ∧ a.keeps ≤ 20 ∧ _ := W 14
  unfold f_M_drop
  have V1 : Vw (hset σ 129 38 (σ 129 38 + 1)) a := Vw_h V (by unfold vwP; omega)
  have e40 : (hset σ 129 38 (σ 129 38 + 1)) 129 40 = a.keeps := w_keeps V1
  rw [e40]
  refine ok_grd h38 (ok_grd (by (first | omega | (unfold r32; omega) | (unfold r64; omega) | (simp only [r32, r64] at *; omega))) ?_)
  have L := e_M_drop_17 W V1 f0 f1 zFuel a.keeps.toNat a.kept a.keeps _ (by unfold zFuel; omega) (by omega) h14.2.1 (fun j j0 j1 => wk_k W j0 j1) (mch_r _) (fun j => w_kept V1 j) e40
  rw [show ((a.keeps.toNat : Nat) : Int) = a.keeps by omega] at L
  refine ok_call L ?_
  rintro r ⟨r1, r2, r3⟩
  refine ok_some ⟨Vw_st V1 r1 r2 r3, fun q q1 q2 => ?_, fun j j1 j2 => ?_, ?_⟩
  · rw [r1.1 q q1 q2, hset_ne q1]
  · rw [r1.2 j j1, hs_nj j2]
  · rw [r1.2 38 (by omega), hs_eq]
end

/-! ===== kept cells are dropped ===== -/
section
variable {σ : Hp} {a a' : Ab} {n : Nat} {B : Int} {e : Nat}
def rmSq (f : Int → Int) (i c : Int) : Int → Int := fun j => if i ≤ j ∧ j < c - 1 then f (j + 1) else f j
noncomputable def drS (D : Int → Prop) : Nat → (Int → Int) → Int → (Int → Int) × Int
  | 0, f, c => (f, c)
  | k + 1, f, c => @ite _ (D (f k)) (Classical.propDecidable _) (drS D k (rmSq f k c) (c - 1)) (drS D k f c)
/-- 1 where a cell stays -/
noncomputable def stay (D : Int → Prop) (f : Int → Int) : Int → Int := fun i => @ite _ (D (f i)) (Classical.propDecidable _) 0 1
theorem stay_0 {D : Int → Prop} {f : Int → Int} {i : Int} (h : D (f i)) : stay D f i = 0 := if_pos h
theorem stay_1 {D : Int → Prop} {f : Int → Int} {i : Int} (h : ¬ D (f i)) : stay D f i ≠ 0 := by unfold stay; rw [if_neg h]; omega
theorem stay_n {D : Int → Prop} {f : Int → Int} {i : Int} (h : stay D f i ≠ 0) : ¬ D (f i) := fun g => h (stay_0 g)
theorem drS_l {D : Int → Prop} {f : Int → Int} {K : Nat} : ∀ (k : Nat) (g : Int → Int) (c : Int), k ≤ K → (∀ j : Int, 0 ≤ j → j < k → g j = f j) → c = k + (nC (stay D f) K - nC (stay D f) k) → (∀ j : Nat, k ≤ j → j < K → stay D f j ≠ 0 → g (k + (nC (stay D f) j - nC (stay D f) k)) = f j) → (drS D k g c).2 = nC (stay D f) K ∧ ∀ j : Nat, j < K → stay D f j ≠ 0 → (drS D k g c).1 (nC (stay D f) j) = f j
  | 0, g, c, hk, h1, h2, h3 => by
    have z : nC (stay D f) 0 = 0 := rfl
    refine ⟨by show c = _; omega, fun j hj hs => ?_⟩
    have := h3 j (by omega) hj hs
    rw [z] at this
    rw [show nC (stay D f) j = ((0 : Nat) : Int) + (nC (stay D f) j - 0) by omega]
    exact this
  | k + 1, g, c, hk, h1, h2, h3 => by
    have ek : g k = f k := h1 k (by omega) (by omega)
    by_cases hD : D (f k)
    · have e1 : drS D (k + 1) g c = drS D k (rmSq g k c) (c - 1) := by
        show @ite _ (D (g k)) (Classical.propDecidable _) _ _ = _
        rw [ek]; exact if_pos hD
      have en : nC (stay D f) (k + 1) = nC (stay D f) k := nC_n (stay_0 hD)
      rw [e1]
      refine drS_l k _ _ (by omega) (fun j j0 j1 => ?_) (by omega) (fun j hj1 hj2 hs => ?_)
      · unfold rmSq; rw [if_neg (by omega)]; exact h1 j j0 (by omega)
      · have hjk : j ≠ k := fun q => by rw [q] at hs; exact hs (stay_0 hD)
        have := h3 j (by omega) hj2 hs
        have hb := nC_le (stay D f) (j + 1) (K - (j + 1))
        rw [show j + 1 + (K - (j + 1)) = K by omega, nC_y hs] at hb
        have hb2 := nC_le (stay D f) (k + 1) (j - (k + 1))
        rw [show k + 1 + (j - (k + 1)) = j by omega] at hb2
        unfold rmSq
        rw [if_pos (by omega), ← this]
        congr 1
        omega
    · have e1 : drS D (k + 1) g c = drS D k g c := by
        show @ite _ (D (g k)) (Classical.propDecidable _) _ _ = _
        rw [ek]; exact if_neg hD
      have en : nC (stay D f) (k + 1) = nC (stay D f) k + 1 := nC_y (stay_1 hD)
      rw [e1]
      refine drS_l k g c (by omega) (fun j j0 j1 => h1 j j0 (by omega)) (by omega) (fun j hj1 hj2 hs => ?_)
      by_cases hjk : j = k
      · rw [hjk, show (k : Int) + (nC (stay D f) k - nC (stay D f) k) = k by omega]; exact ek
      · have := h3 j (by omega) hj2 hs
        rw [← this]
        congr 1
        omega
/-- every place that is left is one that stayed -/
theorem nC_sur {c : Int → Int} : ∀ (K : Nat) (p : Int), 0 ≤ p → p < nC c K → ∃ i : Nat, i < K ∧ c i ≠ 0 ∧ nC c i = p
  | 0, p, h0, h1 => by
    have : nC c 0 = 0 := rfl
    omega
  | K + 1, p, h0, h1 => by
    by_cases h : c K = 0
    · rw [nC_n h] at h1
      obtain ⟨i, i1, i2, i3⟩ := nC_sur K p h0 h1
      exact ⟨i, by omega, i2, i3⟩
    · rw [nC_y h] at h1
      by_cases q : p = nC c K
      · exact ⟨K, by omega, h, q.symm⟩
      · obtain ⟨i, i1, i2, i3⟩ := nC_sur (c := c) K p h0 (by omega)
        exact ⟨i, by omega, i2, i3⟩
def dropP (a : Ab) (pt px py fm c : Int) : Prop := 0 ≤ lead a (c / 576) (c / 48 % 12) (c / 4 % 12) ∨ (nds a (c % 4) fm ∧ cnt a pt px py (c / 576) (c / 48 % 12) (c / 4 % 12) ≠ 0)
/-- with these cells kept -/
def stA (a : Ab) (g : Int → Int) (c : Int) : Ab := fun q j => if q = 162 then g j else if q = 129 ∧ j = 40 then c else a q j
theorem sA_q {g : Int → Int} {c : Int} {q : Nat} (h : q ≠ 129) (h2 : q ≠ 162) : stA a g c q = a q := by
  funext j; unfold stA; rw [if_neg h2, if_neg (fun x => h x.1)]
theorem sA_j {g : Int → Int} {c j : Int} (h : j ≠ 40) : stA a g c 129 j = a 129 j := by
  unfold stA; rw [if_neg (by omega), if_neg (fun x => h x.2)]
theorem sA_k {g : Int → Int} {c : Int} : Ab.keeps (stA a g c) = c := by
  show stA a g c 129 40 = c; unfold stA; rw [if_neg (by omega), if_pos ⟨rfl, rfl⟩]
theorem sA_g {g : Int → Int} {c : Int} : Ab.kept (stA a g c) = g := by
  funext j; show stA a g c 162 j = g j; unfold stA; rw [if_pos rfl]
theorem sA_S {g : Int → Int} {c : Int} : smem a (stA a g c) := ⟨fun q hq => sA_q (by omega) (by omega), sA_j (by omega)⟩
theorem sA_M {g : Int → Int} {c : Int} : smea a (stA a g c) := ⟨sA_q (by omega) (by omega), sA_q (by omega) (by omega), sA_q (by omega) (by omega), sA_q (by omega) (by omega), sA_j (by omega)⟩
theorem sA_F {g : Int → Int} {c : Int} : sfac a (stA a g c) := ⟨fun q h1 h2 => sA_q (by omega) (by omega), sA_j (by omega), sA_j (by omega)⟩
theorem sA_P {g : Int → Int} {c : Int} : spk a (stA a g c) := ⟨sA_q (by omega) (by omega), sA_q (by omega) (by omega), sA_q (by omega) (by omega)⟩
theorem sA_D {g : Int → Int} {c : Int} : swd a (stA a g c) := ⟨sA_q (by omega) (by omega), sA_q (by omega) (by omega), sA_q (by omega) (by omega), sA_q (by omega) (by omega)⟩
theorem sA_h {g : Int → Int} {c : Int} : (Ab.asNow (stA a g c) = a.asNow ∧ Ab.leave (stA a g c) = a.leave) ∧ Ab.hits (stA a g c) = a.hits := ⟨⟨sA_j (by omega), sA_j (by omega)⟩, sA_j (by omega)⟩
theorem sA_V {g : Int → Int} {c : Int} : sval a (stA a g c) := ⟨sA_S, sA_M, sA_h.1, fun q h1 h2 => sA_q (by omega) (by omega), sA_j (by omega), fun i _ => ⟨by unfold Ab.what; rw [sA_q (by omega) (by omega)], by unfold Ab.one; rw [sA_q (by omega) (by omega)], by unfold Ab.two; rw [sA_q (by omega) (by omega)]⟩, fun s _ => by unfold Ab.len; rw [sA_q (by omega) (by omega)]⟩
/-- a code of a cell that is there -/
def wk (a : Ab) (c : Int) : Prop := ∃ t x y m : Int, cin a t x y ∧ 0 ≤ m ∧ m < a.measures ∧ c = 576 * t + 48 * x + 4 * y + m
theorem wk_d (W : WFA a) {c : Int} (h : wk a c) : cin a (c / 576) (c / 48 % 12) (c / 4 % 12) ∧ 0 ≤ c % 4 ∧ c % 4 < a.measures ∧ 0 ≤ c ∧ c = 576 * (c / 576) + 48 * (c / 48 % 12) + 4 * (c / 4 % 12) + c % 4 := by
  obtain ⟨t, x, y, m, h1, m0, m1, e⟩ := h
  have t12 := thr12 W iD0 h1.1
  have x12 := thr12 W iD1 h1.2.1
  have y12 := thr12 W iD2 h1.2.2
  have m4 := (mea W m0 m1).1
  have e1 : c / 576 = t := by omega
  have e2 : c / 48 % 12 = x := by omega
  have e3 : c / 4 % 12 = y := by omega
  have e4 : c % 4 = m := by omega
  rw [e1, e2, e3, e4]
  exact ⟨h1, m0, m1, by omega, e⟩
theorem sA_W (W : WFA a) {g : Int → Int} {c : Int} (h0 : 0 ≤ c) (h1 : c ≤ 20) (hk : ∀ j : Int, 0 ≤ j → j < c → wk a (g j)) : WFA (stA a g c) := by
  refine WFA_by W sA_S (wfa_8 W sA_h.1.1 sA_h.1.2) sA_M sA_F ?_ (wfa_p W sA_S sA_P) (by unfold Ab.len; rw [sA_q (by omega) (by omega)])
  refine (show 0 ≤ Ab.keeps (stA a g c) ∧ Ab.keeps (stA a g c) ≤ 20 ∧ _ from ⟨by rw [sA_k]; exact h0, by rw [sA_k]; exact h1, fun k k0 k1 => ?_⟩)
  rw [sA_k] at k1
  obtain ⟨t, x, y, m, q1, q2, q3, q4⟩ := hk k k0 k1
  have h130 : Ab.many (stA a g c) = a.many := sA_S.1 130 (by omega)
  refine ⟨t, x, y, m, ?_⟩
  rw [sA_g, sA_M.2.2.2.2]
  simp only [thr, h130]
  exact ⟨q1.1, q1.2.1, q1.2.2, q2, q3, q4⟩
theorem wk_k (W : WFA a) {k : Int} (k0 : 0 ≤ k) (k1 : k < a.keeps) : wk a (a.kept k) := by
  have h14 : 0 ≤ a.keeps ∧ a.keeps ≤ 20 ∧ ∀ k : Int, 0 ≤ k → k < a.keeps → ∃ t x y m : Int, thr a 0 t ∧ thr a 1 x ∧ thr a 2 y ∧ 0 ≤ m ∧ m < a.measures ∧ a.kept k = 576 * t + 48 * x + 4 * y + m := W 14
  obtain ⟨t, x, y, m, q1, q2, q3, q4, q5, q6⟩ := h14.2.2 k k0 k1
  exact ⟨t, x, y, m, ⟨q1, q2, q3⟩, q4, q5, q6⟩
/-! the reference's needs -/
theorem pow16 {k : Int} (k0 : 0 ≤ k) (k1 : k < 4) : 0 ≤ ishl 1 k ∧ ishl 1 k < 16 ∧ ∀ o : Int, 0 ≤ o → (bitP (ishl 1 k) o ↔ o = k) := by
  rw [shl_e k0 (by omega)]
  refine ⟨Int.pow_nonneg (by omega), ?_, fun o o0 => pow_bit k0 o0⟩
  have e4 : k = 0 ∨ k = 1 ∨ k = 2 ∨ k = 3 := by omega
  rcases e4 with e4 | e4 | e4 | e4 <;> rw [e4] <;> decide
/-! the reference drops -/
def mch (σ σ' : Hp) : Prop := (∀ q : Nat, q ≠ 129 → q ≠ 162 → σ' q = σ q) ∧ ∀ j : Int, j ≠ 40 → σ' 129 j = σ 129 j
theorem mch_r (σ : Hp) : mch σ σ := ⟨fun _ _ _ => rfl, fun _ _ => rfl⟩
theorem mch_t {σ σ' σ'' : Hp} (h1 : mch σ σ') (h2 : mch σ' σ'') : mch σ σ'' := ⟨fun q a b => (h2.1 q a b).trans (h1.1 q a b), fun j hj => (h2.2 j hj).trans (h1.2 j hj)⟩
/-- the reference's cells but those kept -/
theorem Vw_st {g : Int → Int} {c : Int} {s : Hp} (V : Vw σ a) (h : mch σ s) (h1 : ∀ j : Int, s 162 j = g j) (h2 : s 129 40 = c) : Vw s (stA a g c) := by
  intro q j hq
  unfold stA
  by_cases e : q = 162
  · rw [if_pos e, e]; exact h1 j
  · rw [if_neg e]
    by_cases e2 : q = 129 ∧ j = 40
    · rw [if_pos e2, e2.1, e2.2]; exact h2
    · rw [if_neg e2]
      by_cases e3 : q = 129
      · rw [e3, h.2 j (fun g => e2 ⟨e3, g⟩), ← e3]; exact V q j hq
      · rw [h.1 q e3 e]; exact V q j hq
/-- what is left of the kept cells where a fact of this place and measure changes -/
noncomputable def drA (a : Ab) (pt px py fm : Int) : Ab := stA a (drS (dropP a pt px py fm) a.keeps.toNat a.kept a.keeps).1 (drS (dropP a pt px py fm) a.keeps.toNat a.kept a.keeps).2
theorem drA_l (W : WFA a) (pt px py fm : Int) : Ab.keeps (drA a pt px py fm) = nC (stay (dropP a pt px py fm) a.kept) a.keeps.toNat ∧ ∀ j : Nat, (j : Int) < a.keeps → stay (dropP a pt px py fm) a.kept j ≠ 0 → Ab.kept (drA a pt px py fm) (nC (stay (dropP a pt px py fm) a.kept) j) = a.kept j := by
  have h14 : 0 ≤ a.keeps ∧ a.keeps ≤ 20 ∧ _ := W 14
  have L := drS_l (D := dropP a pt px py fm) (f := a.kept) (K := a.keeps.toNat) a.keeps.toNat a.kept a.keeps (Nat.le_refl _) (fun _ _ _ => rfl) (by omega) (fun j h1 h2 _ => by omega)
  unfold drA
  rw [sA_k, sA_g]
  exact ⟨L.1, fun j hj hs => L.2 j (by omega) hs⟩
end

/-! ===== write: the facts of a cell ===== -/
section
variable {σ : Hp} {a a' b : Ab} {n : Nat} {B : Int} {e : Nat} {t x y m : Int}
/-- how many facts count in the cell, and which -/
noncomputable def wN (a : Ab) (m t x y : Int) : Nat := (nC (cnf a m t x y) a.facts.toNat).toNat
noncomputable def wS (a : Ab) (m t x y : Int) : Int → Int := spF (cnf a m t x y) a.facts.toNat
theorem wN_e : ((wN a m t x y : Nat) : Int) = nC (cnf a m t x y) a.facts.toNat := by
  have := nC_b (cnf a m t x y) a.facts.toNat
  unfold wN; omega
theorem wN_50 (W : WFA a) : wN a m t x y ≤ 50 := by
  have h12 : 0 ≤ a.facts ∧ a.facts ≤ 50 ∧ _ := W 12
  have := nC_b (cnf a m t x y) a.facts.toNat
  unfold wN; omega
theorem wS_r (W : WFA a) {i : Int} (i0 : 0 ≤ i) (i1 : i < wN a m t x y) : ∃ f : Nat, (f : Int) < a.facts ∧ cnf a m t x y f ≠ 0 ∧ nC (cnf a m t x y) f = i ∧ wS a m t x y i = f ∧ f < 50 ∧ -1000000 ≤ a.fv f ∧ a.fv f ≤ 1000000 := by
  have h12 : 0 ≤ a.facts ∧ a.facts ≤ 50 ∧ _ := W 12
  rw [wN_e] at i1
  obtain ⟨f, f1, f2, f3, f4⟩ := spF_r i0 i1
  have g := fct W (f := f) (by omega) (by omega)
  exact ⟨f, by omega, f2, f3, f4, by omega, g.2.2.2.2.2.2.1, g.2.2.2.2.2.2.2.1⟩
theorem gth_w (W : WFA a) {s : Hp} {pl : Int → Int} (G : gth s (cnf a m t x y) pl a.facts.toNat) : s 116 9 = wN a m t x y ∧ ∀ i : Int, 0 ≤ i → i < wN a m t x y → s 121 i = wS a m t x y i ∧ s 122 i = cnf a m t x y (wS a m t x y i) := by
  refine ⟨by rw [wN_e]; exact G.1, fun i i0 i1 => ?_⟩
  obtain ⟨f, f1, f2, f3, f4, f5, _⟩ := wS_r W i0 i1
  have g := G.2 f (by omega) f2
  rw [f3] at g
  rw [f4]; exact ⟨g.1, g.2.1⟩
/-- all of them weigh 1 -/
def wOne (a : Ab) (m t x y : Int) : Prop := ∀ i : Int, 0 ≤ i → i < wN a m t x y → cnf a m t x y (wS a m t x y i) = 1
theorem wOne_f (W : WFA a) : wOne a m t x y ↔ ∀ f : Nat, (f : Int) < a.facts → cnf a m t x y f ≠ 0 → cnf a m t x y f = 1 := by
  have h12 : 0 ≤ a.facts ∧ a.facts ≤ 50 ∧ _ := W 12
  constructor
  · intro h f f1 f2
    have nb := nC_b (cnf a m t x y) f
    have hlt := nC_le (cnf a m t x y) (f + 1) (a.facts.toNat - (f + 1))
    rw [show f + 1 + (a.facts.toNat - (f + 1)) = a.facts.toNat by omega, nC_y f2] at hlt
    have g := h (nC (cnf a m t x y) f) nb.1 (by rw [wN_e]; omega)
    have e : wS a m t x y (nC (cnf a m t x y) f) = f := spF_v _ f (by omega) f2
    rw [e] at g; exact g
  · intro h i i0 i1
    obtain ⟨f, f1, f2, f3, f4, f5, _⟩ := wS_r W i0 i1
    rw [f4]; exact h f f1 f2
theorem c_allWeigh {s : Hp} (W : WFA a) (h9 : s 116 9 = wN a m t x y) (hw : ∀ i : Int, 0 ≤ i → i < wN a m t x y → s 122 i = cnf a m t x y (wS a m t x y i)) : f_R_allWeighOne s = some (bI (wOne a m t x y)) := by
  have N1 := wN_50 (m := m) (t := t) (x := x) (y := y) W
  have L : ∀ (F k : Nat), k ≤ wN a m t x y → wN a m t x y - k < F → (∀ i : Int, 0 ≤ i → i < k → cnf a m t x y (wS a m t x y i) = 1) → Okk (f_R_allWeighOne_2 s F k) fun r => r = bI (wOne a m t x y) := by
    intro F
    induction F with
    | zero => intro k k1 hF; omega
    | succ F ih =>
      intro k k1 hF hk
      rw [f_R_allWeighOne_2, h9]
      refine ok_ite (fun g => ok_grd (by omega) (ok_some (bI_t (fun i i0 i1 => hk i i0 (by omega))).symm)) (fun q => ok_grd (by omega) ?_)
      rw [hw k (by omega) (by omega)]
      refine ok_ite (fun q1 => ok_grd (by (first | omega | (unfold r32; omega) | (unfold r64; omega) | (simp only [r32, r64] at *; omega))) ?_) (fun q1 => ok_grd (by omega) (ok_some (bI_f (fun w => q1 (w k (by omega) (by omega)))).symm))
      rw [show ((k : Int) + 1) = ((k + 1 : Nat) : Int) by omega]
      refine ih (k + 1) (by omega) (by omega) (fun i i0 i1 => ?_)
      by_cases z : i = k
      · rw [z]; exact q1
      · exact hk i i0 (by omega)
  unfold f_R_allWeighOne
  exact ok_eq (L zFuel 0 (by omega) (by unfold zFuel; omega) (fun i i0 i1 => by omega))
theorem e_R_rowAt {s : Hp} (W : WFA a) (h9 : s 116 9 = wN a m t x y) {k : Nat} (hk : k < wN a m t x y) (h1 : s 121 k = wS a m t x y k) : f_R_rowAt s k = some (wS a m t x y k) := by
  have N1 := wN_50 (m := m) (t := t) (x := x) (y := y) W
  unfold f_R_rowAt
  apply ok_eq
  rw [if_neg (by omega), h9, if_neg (by omega), if_neg (by omega), h1]
  exact ok_bind (ok_grd (by omega) (ok_some (ok_some rfl)))
/-- the numbers that are there -/
theorem c_own {s0 : Hp} (W : WFA a) (HF : ICF s0 a) (h9 : s0 116 9 = wN a m t x y) (h1 : ∀ i : Int, 0 ≤ i → i < wN a m t x y → s0 121 i = wS a m t x y i) (h2 : s0 112 0 = wN a m t x y) : Okk (f_C_write_176 zFuel 0 s0) fun r => (∀ q : Nat, q ≠ 113 → r.2 q = s0 q) ∧ ∀ i : Int, 0 ≤ i → i < wN a m t x y → r.2 113 i = a.fv (wS a m t x y i) := by
  have N1 := wN_50 (m := m) (t := t) (x := x) (y := y) W
  have L : ∀ (F k : Nat) (s : Hp), k ≤ wN a m t x y → wN a m t x y - k < F → (∀ q : Nat, q ≠ 113 → s q = s0 q) → (∀ i : Int, 0 ≤ i → i < k → s 113 i = a.fv (wS a m t x y i)) → Okk (f_C_write_176 F k s) fun r => (∀ q : Nat, q ≠ 113 → r.2 q = s0 q) ∧ ∀ i : Int, 0 ≤ i → i < wN a m t x y → r.2 113 i = a.fv (wS a m t x y i) := by
    intro F
    induction F with
    | zero => intro k s k1 hF; omega
    | succ F ih =>
      intro k s k1 hF E hi
      have e9 : s 116 9 = wN a m t x y := by rw [E 116 (by omega)]; exact h9
      rw [f_C_write_176, e9]
      refine ok_ite (fun g => ok_some ⟨E, fun i i0 i1 => hi i i0 (by omega)⟩) (fun g => ?_)
      obtain ⟨f, f1, f2, f3, f4, f5, _⟩ := wS_r W (i := k) (by omega) (show (k : Int) < wN a m t x y by omega)
      refine ok_eqb (e_R_rowAt W e9 (k := k) (by omega) (by rw [E 121 (by omega)]; exact h1 k (by omega) (by omega))) ?_
      have HFs : ICF s a := ICF_e (fun q q1 q2 => E q (by omega)) HF
      rw [f4]
      refine ok_eqb (r_FR W HFs (f := f) (by omega) f1).2.2 ?_
      refine ok_eqb (v := hset s 113 k (a.fv f)) ?_ ?_
      · unfold f_SP_own; apply ok_eq
        rw [E 112 (by omega), h2, if_neg (by omega), if_neg (by omega)]
        exact ok_bind (ok_grd (by omega) (ok_some (ok_some rfl)))
      · refine ok_grd (by (first | omega | (unfold r32; omega) | (unfold r64; omega) | (simp only [r32, r64] at *; omega))) ?_
        rw [show ((k : Int) + 1) = ((k + 1 : Nat) : Int) by omega]
        refine ih (k + 1) _ (by omega) (by omega) (fun q q1 => by rw [hset_ne q1]; exact E q q1) (fun i i0 i1 => ?_)
        by_cases w : i = k
        · rw [w, hs_eq, f4]
        · rw [hs_nj w]; exact hi i i0 (by omega)
  exact L zFuel 0 s0 (by omega) (by unfold zFuel; omega) (fun _ _ => rfl) (fun i i0 i1 => by omega)
/-! one fact's number after the other -/
noncomputable def pA (a : Ab) (sp g : Int → Int) : Nat → Ab
  | 0 => a
  | k + 1 => putA (pA a sp g k) (sp k) (g k)
noncomputable def pC (a : Ab) (sp g : Int → Int) : Nat → Int
  | 0 => 0
  | k + 1 => pC a sp g k + if (pA a sp g k).fv (sp k) = g k then 0 else 1
theorem pA_s {sp g : Int → Int} (k : Nat) : pA a sp g (k + 1) = putA (pA a sp g k) (sp k) (g k) := rfl
theorem pC_s {sp g : Int → Int} (k : Nat) : pC a sp g (k + 1) = pC a sp g k + if (pA a sp g k).fv (sp k) = g k then 0 else 1 := rfl
theorem pA_W (W : WFA a) (K : WFW a) {sp g : Int → Int} : ∀ k : Nat, (∀ i : Int, 0 ≤ i → i < k → -1000000 ≤ g i ∧ g i ≤ 1000000) → WFA (pA a sp g k) ∧ WFW (pA a sp g k) ∧ (pA a sp g k).hits = a.hits ∧ (pA a sp g k).facts = a.facts
  | 0, _ => ⟨W, K, rfl, rfl⟩
  | k + 1, h => by
    have ih := pA_W W K (sp := sp) k (fun i i0 i1 => h i i0 (by omega))
    have P := putA_W ih.1 ih.2.1 (f := sp k) (h k (by omega) (by omega))
    have F := putA_f (a := pA a sp g k) (f := sp k) (v := g k)
    rw [pA_s]
    exact ⟨P.1, P.2.1, P.2.2.trans ih.2.2.1, F.2.2.2.2.1.trans ih.2.2.2⟩
theorem pC_b (sp g : Int → Int) : ∀ k : Nat, 0 ≤ pC a sp g k ∧ pC a sp g k ≤ k ∧ (pC a sp g k = 0 → pA a sp g k = a)
  | 0 => ⟨Int.le_refl _, Int.le_refl _, fun _ => rfl⟩
  | k + 1 => by
    have ih := pC_b sp g k
    rw [pC_s, pA_s]
    by_cases h : (pA a sp g k).fv (sp k) = g k
    · rw [if_pos h]
      refine ⟨by omega, by omega, fun z => ?_⟩
      unfold putA; rw [if_pos h]; exact ih.2.2 (by omega)
    · rw [if_neg h]
      exact ⟨by omega, by omega, fun z => by omega⟩
theorem c_wShares (W : WFA a) (K : WFW a) {g : Int → Int} (hg : ∀ i : Int, 0 ≤ i → i < wN a m t x y → -1000000 ≤ g i ∧ g i ≤ 1000000) {s0 : Hp} (I : IC s0 a n B) (h9 : s0 116 9 = wN a m t x y) (h1 : ∀ i : Int, 0 ≤ i → i < wN a m t x y → s0 121 i = wS a m t x y i) (h2 : s0 112 0 = wN a m t x y) (h3 : ∀ i : Int, 0 ≤ i → i < wN a m t x y → s0 114 i = g i) : Okk (f_C_writeShares s0) fun r => r.1 = pC a (wS a m t x y) g (wN a m t x y) ∧ IC r.2 (pA a (wS a m t x y) g (wN a m t x y)) n B ∧ ∀ q : Nat, q < 101 ∨ 111 < q → r.2 q = s0 q := by
  have N1 := wN_50 (m := m) (t := t) (x := x) (y := y) W
  have L : ∀ (F k : Nat) (s : Hp), k ≤ wN a m t x y → wN a m t x y - k < F → IC s (pA a (wS a m t x y) g k) n B → (∀ q : Nat, q < 101 ∨ 111 < q → s q = s0 q) → Okk (f_C_writeShares_4 F (pC a (wS a m t x y) g k) k s) fun r => r.1 = pC a (wS a m t x y) g (wN a m t x y) ∧ IC r.2.2 (pA a (wS a m t x y) g (wN a m t x y)) n B ∧ ∀ q : Nat, q < 101 ∨ 111 < q → r.2.2 q = s0 q := by
    intro F
    induction F with
    | zero => intro k s k1 hF; omega
    | succ F ih =>
      intro k s k1 hF Is E
      have e9 : s 116 9 = wN a m t x y := by rw [E 116 (by omega)]; exact h9
      have cb := pC_b (a := a) (wS a m t x y) g k
      have PW := pA_W W K (sp := wS a m t x y) k (fun i i0 i1 => hg i i0 (by omega))
      rw [f_C_writeShares_4, e9]
      refine ok_ite (fun q => ok_some ⟨by rw [show wN a m t x y = k by omega], by rw [show wN a m t x y = k by omega]; exact Is, E⟩) (fun q => ?_)
      obtain ⟨f, f1, f2, f3, f4, f5, _⟩ := wS_r W (i := k) (by omega) (show (k : Int) < wN a m t x y by omega)
      have gk := hg k (by omega) (by omega)
      refine ok_eqb (e_R_rowAt W e9 (k := k) (by omega) (by rw [E 121 (by omega)]; exact h1 k (by omega) (by omega))) ?_
      refine ok_eqb (v := g k) ?_ ?_
      · unfold f_SP_shareAt; apply ok_eq
        rw [E 112 (by omega), h2, if_neg (by omega), if_neg (by omega), E 114 (by omega), h3 k (by omega) (by omega)]
        exact ok_bind (ok_grd (by omega) (ok_some (ok_some rfl)))
      refine ok_grd (by (first | omega | (unfold r32; omega) | (unfold r64; omega) | (simp only [r32, r64] at *; omega))) ?_
      refine ok_call (c_setNumber PW.1 PW.2.1 Is (f := wS a m t x y k) (v := g k) (by rw [f4]; omega) (by rw [f4, PW.2.2.2]; exact f1) gk) ?_
      rintro r ⟨r1, r2, r3⟩
      refine ok_call (P := fun j => j = pC a (wS a m t x y) g (k + 1)) ?_ ?_
      · rw [r1, pC_s]
        by_cases z : (pA a (wS a m t x y) g k).fv (wS a m t x y k) = g k
        · rw [if_pos z, if_pos rfl]; exact ok_some (by omega)
        · rw [if_neg z, if_neg (by omega)]; exact ok_grd (by (first | omega | (unfold r32; omega) | (unfold r64; omega) | (simp only [r32, r64] at *; omega))) (ok_some rfl)
      · rintro j rfl
        refine ok_grd (by (first | omega | (unfold r32; omega) | (unfold r64; omega) | (simp only [r32, r64] at *; omega))) ?_
        rw [show ((k : Int) + 1) = ((k + 1 : Nat) : Int) by omega]
        exact ih (k + 1) r.2 (by omega) (by omega) r2 (fun q hq => (r3 q hq).trans (E q hq))
  unfold f_C_writeShares
  exact ok_call (L zFuel 0 s0 (by omega) (by unfold zFuel; omega) I (fun _ _ => rfl)) (fun r hr => ok_some hr)
theorem TKs_pA (a : Ab) (sp g : Int → Int) : ∀ k : Nat, TKs a (pA a sp g k)
  | 0 => TKs_r a
  | k + 1 => TKs_tr (TKs_pA a sp g k) TKs_put
end

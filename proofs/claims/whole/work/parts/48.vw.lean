/-! ===== the reference's world: what it holds ===== -/
def Vw (σ : Hp) (a : Ab) : Prop := ∀ (q : Nat) (j : Int), vwP q j → σ q j = a q j
def mdl (σ σ' : Hp) : Prop := ∀ q : Nat, q < 129 ∨ 169 < q → σ' q = σ q
def cls (σ σ' : Hp) : Prop := ∀ q : Nat, 129 ≤ q → q ≤ 170 → σ' q = σ q
section
variable {σ : Hp} {a : Ab}
theorem w_many (V : Vw σ a) (i : Int) : σ 130 i = a.many i := V _ _ (Or.inl ⟨by decide, by decide⟩)
theorem w_kind (V : Vw σ a) (i : Int) : σ 131 i = a.kind i := V _ _ (Or.inl ⟨by decide, by decide⟩)
theorem w_par (V : Vw σ a) (i : Int) : σ 132 i = a.par i := V _ _ (Or.inl ⟨by decide, by decide⟩)
theorem w_sign (V : Vw σ a) (i : Int) : σ 133 i = a.sign i := V _ _ (Or.inl ⟨by decide, by decide⟩)
theorem w_set (V : Vw σ a) (i : Int) : σ 134 i = a.set i := V _ _ (Or.inl ⟨by decide, by decide⟩)
theorem w_order (V : Vw σ a) (i : Int) : σ 135 i = a.order i := V _ _ (Or.inl ⟨by decide, by decide⟩)
theorem w_hid (V : Vw σ a) (i : Int) : σ 136 i = a.hid i := V _ _ (Or.inl ⟨by decide, by decide⟩)
theorem w_what (V : Vw σ a) (i : Int) : σ 137 i = a.what i := V _ _ (Or.inl ⟨by decide, by decide⟩)
theorem w_one (V : Vw σ a) (i : Int) : σ 138 i = a.one i := V _ _ (Or.inl ⟨by decide, by decide⟩)
theorem w_two (V : Vw σ a) (i : Int) : σ 139 i = a.two i := V _ _ (Or.inl ⟨by decide, by decide⟩)
theorem w_len (V : Vw σ a) (i : Int) : σ 140 i = a.len i := V _ _ (Or.inl ⟨by decide, by decide⟩)
theorem w_vd (V : Vw σ a) (i : Int) : σ 141 i = a.vd i := V _ _ (Or.inl ⟨by decide, by decide⟩)
theorem w_vm (V : Vw σ a) (i : Int) : σ 142 i = a.vm i := V _ _ (Or.inl ⟨by decide, by decide⟩)
theorem w_vp (V : Vw σ a) (i : Int) : σ 143 i = a.vp i := V _ _ (Or.inl ⟨by decide, by decide⟩)
theorem w_vt (V : Vw σ a) (i : Int) : σ 144 i = a.vt i := V _ _ (Or.inl ⟨by decide, by decide⟩)
theorem w_place (V : Vw σ a) (i : Int) : σ 145 i = a.place i := V _ _ (Or.inl ⟨by decide, by decide⟩)
theorem w_mk (V : Vw σ a) (i : Int) : σ 146 i = a.mk i := V _ _ (Or.inl ⟨by decide, by decide⟩)
theorem w_ma (V : Vw σ a) (i : Int) : σ 147 i = a.ma i := V _ _ (Or.inl ⟨by decide, by decide⟩)
theorem w_mb (V : Vw σ a) (i : Int) : σ 148 i = a.mb i := V _ _ (Or.inl ⟨by decide, by decide⟩)
theorem w_md (V : Vw σ a) (i : Int) : σ 149 i = a.md i := V _ _ (Or.inl ⟨by decide, by decide⟩)
theorem w_ft (V : Vw σ a) (i : Int) : σ 150 i = a.ft i := V _ _ (Or.inl ⟨by decide, by decide⟩)
theorem w_fa (V : Vw σ a) (i : Int) : σ 151 i = a.fa i := V _ _ (Or.inl ⟨by decide, by decide⟩)
theorem w_fb (V : Vw σ a) (i : Int) : σ 152 i = a.fb i := V _ _ (Or.inl ⟨by decide, by decide⟩)
theorem w_fm (V : Vw σ a) (i : Int) : σ 153 i = a.fm i := V _ _ (Or.inl ⟨by decide, by decide⟩)
theorem w_fv (V : Vw σ a) (i : Int) : σ 154 i = a.fv i := V _ _ (Or.inl ⟨by decide, by decide⟩)
theorem w_st (V : Vw σ a) (i : Int) : σ 155 i = a.st i := V _ _ (Or.inl ⟨by decide, by decide⟩)
theorem w_sa (V : Vw σ a) (i : Int) : σ 156 i = a.sa i := V _ _ (Or.inl ⟨by decide, by decide⟩)
theorem w_sb (V : Vw σ a) (i : Int) : σ 157 i = a.sb i := V _ _ (Or.inl ⟨by decide, by decide⟩)
theorem w_sm (V : Vw σ a) (i : Int) : σ 158 i = a.sm i := V _ _ (Or.inl ⟨by decide, by decide⟩)
theorem w_sv (V : Vw σ a) (i : Int) : σ 159 i = a.sv i := V _ _ (Or.inl ⟨by decide, by decide⟩)
theorem w_kept (V : Vw σ a) (i : Int) : σ 162 i = a.kept i := V _ _ (Or.inr (Or.inl ⟨by decide, by decide⟩))
theorem w_chos (V : Vw σ a) (i : Int) : σ 163 i = a.chos i := V _ _ (Or.inr (Or.inl ⟨by decide, by decide⟩))
theorem w_pick (V : Vw σ a) (i : Int) : σ 164 i = a.pick i := V _ _ (Or.inr (Or.inl ⟨by decide, by decide⟩))
theorem w_picks (V : Vw σ a) (i : Int) : σ 165 i = a.picks i := V _ _ (Or.inr (Or.inl ⟨by decide, by decide⟩))
theorem w_moves (V : Vw σ a) : σ 129 15 = a.moves := V _ _ (Or.inr (Or.inr ⟨rfl, by decide⟩))
theorem w_asNow (V : Vw σ a) : σ 129 16 = a.asNow := V _ _ (Or.inr (Or.inr ⟨rfl, by decide⟩))
theorem w_leave (V : Vw σ a) : σ 129 17 = a.leave := V _ _ (Or.inr (Or.inr ⟨rfl, by decide⟩))
theorem w_measures (V : Vw σ a) : σ 129 23 = a.measures := V _ _ (Or.inr (Or.inr ⟨rfl, by decide⟩))
theorem w_facts (V : Vw σ a) : σ 129 29 = a.facts := V _ _ (Or.inr (Or.inr ⟨rfl, by decide⟩))
theorem w_saved (V : Vw σ a) : σ 129 35 = a.saved := V _ _ (Or.inr (Or.inr ⟨rfl, by decide⟩))
theorem w_keeps (V : Vw σ a) : σ 129 40 = a.keeps := V _ _ (Or.inr (Or.inr ⟨rfl, by decide⟩))
theorem w_hits (V : Vw σ a) : σ 129 41 = a.hits := V _ _ (Or.inr (Or.inr ⟨rfl, by decide⟩))
end
theorem Vw_h {σ : Hp} {a : Ab} (V : Vw σ a) {q : Nat} {i v : Int} (h : ¬ vwP q i) : Vw (hset σ q i v) a := by
  intro r j hr
  by_cases e : r = q ∧ j = i
  · obtain ⟨rfl, rfl⟩ := e; exact absurd hr h
  · have : hset σ q i v r j = σ r j := if_neg e
    rw [this]; exact V r j hr
theorem Vw_s {σ : Hp} {a : Ab} (V : Vw σ a) {q : Nat} {i v : Int} : Vw (hset σ q i v) (hset a q i v) := by
  intro r j hr
  by_cases e : r = q ∧ j = i
  · obtain ⟨rfl, rfl⟩ := e; rw [hs_eq, hs_eq]
  · have h1 : hset σ q i v r j = σ r j := if_neg e
    have h2 : hset a q i v r j = a r j := if_neg e
    rw [h1, h2]; exact V r j hr
theorem Vw_c {σ σ' : Hp} {a : Ab} (h : cls σ σ') (V : Vw σ a) : Vw σ' a := by
  intro r j hr
  have : 129 ≤ r ∧ r ≤ 170 := by unfold vwP at hr; omega
  rw [h r this.1 this.2]; exact V r j hr
theorem mdl_r (σ : Hp) : mdl σ σ := fun _ _ => rfl
theorem mdl_t {σ σ' σ'' : Hp} (h1 : mdl σ σ') (h2 : mdl σ' σ'') : mdl σ σ'' := fun q hq => (h2 q hq).trans (h1 q hq)
theorem mdl_h {σ : Hp} {q : Nat} {i v : Int} (h : 129 ≤ q ∧ q ≤ 169) : mdl σ (hset σ q i v) := fun r hr => hset_ne (by omega)
theorem cls_r (σ : Hp) : cls σ σ := fun _ _ _ => rfl
theorem cls_t {σ σ' σ'' : Hp} (h1 : cls σ σ') (h2 : cls σ' σ'') : cls σ σ'' := fun q h h' => (h2 q h h').trans (h1 q h h')
theorem cls_h {σ : Hp} {q : Nat} {i v : Int} (h : q < 129 ∨ 170 < q) : cls σ (hset σ q i v) := fun r h1 h2 => hset_ne (by omega)
theorem inD_of {d : Int} (h : 0 ≤ d ∧ d ≤ 2) : inD d := by unfold inD; omega
theorem inD_b {d : Int} (h : inD d) : 0 ≤ d ∧ d ≤ 2 := by unfold inD at h; omega
theorem lcm_lt {x y : Int} : lcm x y < 0 ↔ x < y := by
  unfold lcm
  by_cases h : x < y
  · rw [if_pos h]; omega
  · by_cases h2 : x = y
    · rw [if_neg h, if_pos h2]; omega
    · rw [if_neg h, if_neg h2]; omega
theorem lcm_gt {x y : Int} : 0 < lcm x y ↔ y < x := by
  unfold lcm
  by_cases h : x < y
  · rw [if_pos h]; omega
  · by_cases h2 : x = y
    · rw [if_neg h, if_pos h2]; omega
    · rw [if_neg h, if_neg h2]; omega
theorem lcm_eq {x y : Int} : lcm x y = 0 ↔ x = y := by
  unfold lcm
  by_cases h : x < y
  · rw [if_pos h]; omega
  · by_cases h2 : x = y
    · rw [if_neg h, if_pos h2]; omega
    · rw [if_neg h, if_neg h2]; omega
theorem lcm_le {x y : Int} : lcm x y ≤ 0 ↔ x ≤ y := by
  unfold lcm
  by_cases h : x < y
  · rw [if_pos h]; omega
  · by_cases h2 : x = y
    · rw [if_neg h, if_pos h2]; omega
    · rw [if_neg h, if_neg h2]; omega
theorem lcm_ge {x y : Int} : 0 ≤ lcm x y ↔ y ≤ x := by
  unfold lcm
  by_cases h : x < y
  · rw [if_pos h]; omega
  · by_cases h2 : x = y
    · rw [if_neg h, if_pos h2]; omega
    · rw [if_neg h, if_neg h2]; omega
theorem iand_b (P Q : Prop) : iand (bI P) (bI Q) = bI (P ∧ Q) := by
  by_cases h : P <;> by_cases h2 : Q
  · rw [bI_t h, bI_t h2, bI_t ⟨h, h2⟩]; decide
  · rw [bI_t h, bI_f h2, bI_f (fun g => h2 g.2)]; decide
  · rw [bI_f h, bI_t h2, bI_f (fun g => h g.1)]; decide
  · rw [bI_f h, bI_f h2, bI_f (fun g => h g.1)]; decide
theorem e_M_in (σ : Hp) (x l h : Int) : f_M_in σ x l h = some (bI (l ≤ x ∧ x ≤ h)) := by
  unfold f_M_in; apply ok_eq
  simp only [lcm_lt, lcm_gt]
  (repeat' (first | with_reducible refine ok_bind ?_ | (with_reducible refine ok_ite (fun _ => ?_) (fun _ => ?_) <;> try (simp only [bI_0, bI_1, ne_eq, Classical.not_not, not_true_eq_false] at *)) | with_reducible refine ok_grd (by (first | omega | (unfold r32; omega) | (unfold r64; omega) | (simp only [r32, r64] at *; omega))) ?_ | with_reducible refine ok_some ?_)) <;> (first | exact bI_eq (Or.inl ⟨rfl, by omega⟩) | exact bI_eq (Or.inr ⟨rfl, by omega⟩))
theorem e_M_isDim (σ : Hp) (x : Int) : f_M_isDim σ x = some (bI (0 ≤ x ∧ x ≤ 2)) := by
  unfold f_M_isDim; apply ok_eq
  exact ok_eqb (e_M_in σ x 0 2) (ok_grd (bI_r _) (ok_some rfl))
theorem e_M_is {σ : Hp} {a : Ab} (W : WFA a) (V : Vw σ a) (d m : Int) : f_M_is σ d m = some (bI (inD d ∧ thr a d m)) := by
  unfold f_M_is; apply ok_eq
  refine ok_eqb (e_M_isDim σ d) ?_
  by_cases hd : inD d
  · have hb := many_b W hd
    have hd' : 0 ≤ d ∧ d ≤ 2 := inD_b hd
    rw [bI_t hd', if_neg (by omega), w_many V]
    refine ok_bind (ok_grd (by omega) (ok_grd (by (first | omega | (unfold r32; omega) | (unfold r64; omega) | (simp only [r32, r64] at *; omega))) (ok_eqb (e_M_in σ m 0 (a.many d - 1)) ?_)))
    by_cases hm : 0 ≤ m ∧ m ≤ a.many d - 1
    · rw [bI_t hm, if_neg (by omega)]
      exact ok_some (ok_grd (by omega) (ok_some (bI_t ⟨hd, hm.1, by omega⟩).symm))
    · rw [bI_f hm, if_pos rfl]
      exact ok_some (ok_grd (by omega) (ok_some (bI_f (fun g => hm ⟨g.2.1, by have := g.2.2; omega⟩)).symm))
  · rw [bI_f (fun g => hd (inD_of g)), if_pos rfl]
    exact ok_bind (ok_some (ok_grd (by omega) (ok_some (bI_f (fun g => hd g.1)).symm)))
theorem e_M_isPlain {σ : Hp} {a : Ab} (V : Vw σ a) {d m : Int} (hd : inD d) (hm : 0 ≤ m ∧ m < 12) : f_M_isPlain σ d m = some (bI (isP a d m)) := by
  have hd' := inD_b hd
  unfold f_M_isPlain; apply ok_eq
  rw [w_kind V]
  refine ok_grd (by (first | omega | (unfold r32; omega) | (unfold r64; omega) | (simp only [r32, r64] at *; omega))) (ok_grd (by (first | omega | (unfold r32; omega) | (unfold r64; omega) | (simp only [r32, r64] at *; omega))) (ok_grd (by omega) (ok_bind ?_)))
  by_cases h : isP a d m
  · rw [if_neg (by intro g; exact g h)]
    exact ok_some (ok_grd (by omega) (ok_some (bI_t h).symm))
  · rw [if_pos h]
    exact ok_some (ok_grd (by omega) (ok_some (bI_f h).symm))
theorem e_M_isMeasure {σ : Hp} {a : Ab} (W : WFA a) (V : Vw σ a) (m : Int) : f_M_isMeasure σ m = some (bI (0 ≤ m ∧ m < a.measures)) := by
  have h10 : 0 ≤ a.measures ∧ a.measures ≤ 4 ∧ _ := W 10
  unfold f_M_isMeasure; apply ok_eq
  rw [w_measures V]
  refine ok_grd (by (first | omega | (unfold r32; omega) | (unfold r64; omega) | (simp only [r32, r64] at *; omega))) (ok_eqb (e_M_in σ m 0 (a.measures - 1)) (ok_grd (bI_r _) (ok_some (bI_iff (by omega)))))
theorem e_M_holds (σ : Hp) (x : Int) : f_M_holds σ x = some (if x ≤ 0 then 0 else 1, hset σ 129 50 x) := by
  unfold f_M_holds; apply ok_eq
  (repeat' (first | with_reducible refine ok_bind ?_ | (with_reducible refine ok_ite (fun _ => ?_) (fun _ => ?_) <;> try (simp only [bI_0, bI_1, ne_eq, Classical.not_not, not_true_eq_false] at *)) | with_reducible refine ok_grd (by (first | omega | (unfold r32; omega) | (unfold r64; omega) | (simp only [r32, r64] at *; omega))) ?_ | with_reducible refine ok_some ?_)) <;> first | rfl | (rw [if_pos (by omega)]; done) | (rw [if_neg (by omega)]; done)
def mem4 (a : Ab) (t x y m : Int) : Prop := thr a 0 t ∧ thr a 1 x ∧ thr a 2 y ∧ 0 ≤ m ∧ m < a.measures
theorem e_M_areThere {σ : Hp} {a : Ab} (W : WFA a) (V : Vw σ a) (t x y m : Int) : f_M_areThere σ t x y m = some (bI (mem4 a t x y m)) := by
  unfold f_M_areThere mem4; apply ok_eq
  refine ok_eqb (e_M_is W V 0 t) ?_
  by_cases h1 : thr a 0 t
  · rw [bI_t ⟨Or.inl rfl, h1⟩, if_neg (by omega)]
    refine ok_bind (ok_eqb (e_M_is W V 1 x) ?_)
    by_cases h2 : thr a 1 x
    · rw [bI_t ⟨Or.inr (Or.inl rfl), h2⟩, if_neg (by omega)]
      refine ok_eqb (e_M_is W V 2 y) ?_
      by_cases h3 : thr a 2 y
      · rw [bI_t ⟨Or.inr (Or.inr rfl), h3⟩, if_neg (by omega)]
        refine ok_eqb (e_M_isMeasure W V m) ?_
        by_cases h4 : 0 ≤ m ∧ m < a.measures
        · rw [bI_t h4, if_neg (by omega)]
          exact ok_some (ok_grd (by omega) (ok_some (bI_t ⟨h1, h2, h3, h4⟩).symm))
        · rw [bI_f h4, if_pos rfl]
          exact ok_some (ok_grd (by omega) (ok_some (bI_f (fun g => h4 g.2.2.2)).symm))
      · rw [bI_f (fun g => h3 g.2), if_pos rfl]
        exact ok_some (ok_grd (by omega) (ok_some (bI_f (fun g => h3 g.2.2.1)).symm))
    · rw [bI_f (fun g => h2 g.2), if_pos rfl]
      exact ok_some (ok_grd (by omega) (ok_some (bI_f (fun g => h2 g.2.1)).symm))
  · rw [bI_f (fun g => h1 g.2), if_pos rfl]
    exact ok_bind (ok_some (ok_grd (by omega) (ok_some (bI_f (fun g => h1 g.1)).symm)))
/-! ===== the reference's parents, depths, what is seen ===== -/
theorem e_M_parent_6 {σ : Hp} {a : Ab} (W : WFA a) (V : Vw σ a) (d m u : Int) : ∀ (j k F : Nat), (k : Int) + j = a.moves → j < F → f_M_parent_6 σ d m u F (bestV a d m u k) k = some (bestV a d m u a.moves.toNat, a.moves) := by
  have h7 : 0 ≤ a.moves ∧ a.moves ≤ 10 ∧ ∀ k : Int, 0 ≤ k → k < a.moves → (a.vd k = 1 ∨ a.vd k = 2) ∧ thr a (a.vd k) (a.vm k) ∧ isP a (a.vd k) (a.vm k) ∧ 0 ≤ a.vp k ∧ a.vp k < a.vm k ∧ isP a (a.vd k) (a.vp k) ∧ thr a 0 (a.vt k) ∧ isP a 0 (a.vt k) := W 7
  have hm0 := many_b W (Or.inl rfl : inD 0)
  intro j
  induction j with
  | zero =>
    intro k F hk hF
    obtain ⟨F, rfl⟩ : ∃ G, F = G + 1 := ⟨F - 1, by omega⟩
    have e : a.moves.toNat = k := by omega
    rw [f_M_parent_6, w_moves V, e, if_pos (by omega), show a.moves = (k : Int) by omega]
  | succ j ih =>
    intro k F hk hF
    obtain ⟨F, rfl⟩ : ∃ G, F = G + 1 := ⟨F - 1, by omega⟩
    have hb := bestV_b a d m u k
    have hv := (h7.2.2 k (by omega) (by omega)).2.2.2.2.2.2.1
    have hst : ∀ x y : Int, x = bestV a d m u (k + 1) → y = ((k + 1 : Nat) : Int) → f_M_parent_6 σ d m u F x y = some (bestV a d m u a.moves.toNat, a.moves) := by
      intro x y hx hy; rw [hx, hy]; exact ih (k + 1) F (by omega) (by omega)
    have hbt : 0 ≤ bestV a d m u k → thr a 0 (a.vt (bestV a d m u k)) := fun h => (h7.2.2 (bestV a d m u k) h (by omega)).2.2.2.2.2.2.1
    have hvt0 := hv.1
    have hvt1 := hv.2
    rw [f_M_parent_6, w_moves V, if_neg (by omega)]
    simp only [w_vd V, w_vm V, w_vt V, w_place V]
    apply ok_eq
    refine ok_grd (by omega) ?_
    by_cases hyes : a.vd k = d ∧ a.vm k = m ∧ a.place (a.vt k) ≤ u ∧ (bestV a d m u k < 0 ∨ a.place (a.vt (bestV a d m u k)) ≤ a.place (a.vt k))
    · have eb : bestV a d m u (k + 1) = k := by show (if _ then _ else _) = _; rw [if_pos hyes]
      refine ok_call (P := fun r => r = 1) ?_ ?_
      · rw [if_neg (by intro g; exact g hyes.1)]
        refine ok_grd (by omega) ?_
        rw [if_neg (by intro g; exact g hyes.2.1)]
        refine ok_grd (by omega) (ok_grd (by omega) ?_)
        rw [if_neg (by omega)]
        by_cases h : bestV a d m u k < 0
        · rw [if_pos h]; exact ok_some rfl
        · have hbb := hbt (by omega)
          have hb0 := hbb.1
          have hb1 := hbb.2
          rw [if_neg h]
          refine ok_grd (by omega) (ok_grd (by omega) (ok_grd (by omega) (ok_grd (by omega) ?_)))
          rw [if_neg (by omega)]
          exact ok_some rfl
      · rintro r rfl
        rw [if_neg (by omega)]
        exact ok_bind (ok_some (ok_grd (by (first | omega | (unfold r32; omega) | (unfold r64; omega) | (simp only [r32, r64] at *; omega))) (eq_ok (hst _ _ eb.symm (by omega)) rfl)))
    · have eb : bestV a d m u (k + 1) = bestV a d m u k := by show (if _ then _ else _) = _; rw [if_neg hyes]
      refine ok_call (P := fun r => r = 0) ?_ ?_
      · refine ok_ite (fun _ => ok_some rfl) (fun h1 => ok_grd (by omega) (ok_ite (fun _ => ok_some rfl) (fun h2 => ok_grd (by omega) (ok_grd (by omega) (ok_ite (fun _ => ok_some rfl) (fun h3 => ?_))))))
        by_cases h : bestV a d m u k < 0
        · exact absurd ⟨by omega, by omega, by omega, Or.inl h⟩ hyes
        · have hbb := hbt (by omega)
          have hb0 := hbb.1
          have hb1 := hbb.2
          rw [if_neg h]
          refine ok_grd (by omega) (ok_grd (by omega) (ok_grd (by omega) (ok_grd (by omega) ?_)))
          refine ok_ite (fun _ => ok_some rfl) (fun h4 => ?_)
          exact absurd ⟨by omega, by omega, by omega, Or.inr (by omega)⟩ hyes
      · rintro r rfl
        rw [if_pos rfl]
        exact ok_bind (ok_some (ok_grd (by (first | omega | (unfold r32; omega) | (unfold r64; omega) | (simp only [r32, r64] at *; omega))) (eq_ok (hst _ _ eb.symm (by omega)) rfl)))
theorem e_M_parent {σ : Hp} {a : Ab} (W : WFA a) (V : Vw σ a) {d m : Int} (u : Int) (hd : inD d) (hm : 0 ≤ m ∧ m < 12) : f_M_parent σ d m u = some (prn a d m u) := by
  have h7 : 0 ≤ a.moves ∧ a.moves ≤ 10 ∧ _ := W 7
  have hd' := inD_b hd
  have hb := bestV_b a d m u a.moves.toNat
  have := e_M_parent_6 W V d m u a.moves.toNat 0 zFuel (by omega) (by unfold zFuel; omega)
  unfold f_M_parent prn; apply ok_eq
  refine ok_eqb this ?_
  rw [w_vp V, w_par V]
  by_cases h : bestV a d m u a.moves.toNat < 0
  · rw [if_neg (by show ¬ (0 ≤ bestV a d m u a.moves.toNat); omega), if_pos h]
    exact ok_bind (ok_grd (by (first | omega | (unfold r32; omega) | (unfold r64; omega) | (simp only [r32, r64] at *; omega))) (ok_grd (by (first | omega | (unfold r32; omega) | (unfold r64; omega) | (simp only [r32, r64] at *; omega))) (ok_grd (by omega) (ok_some (ok_some rfl)))))
  · rw [if_pos (by show 0 ≤ bestV a d m u a.moves.toNat; omega), if_neg h]
    exact ok_bind (ok_grd (by show 0 ≤ bestV a d m u a.moves.toNat ∧ bestV a d m u a.moves.toNat < 10; omega) (ok_some (ok_some rfl)))
theorem e_M_now {σ : Hp} {a : Ab} (W : WFA a) (V : Vw σ a) {d m : Int} (hd : inD d) (hm : 0 ≤ m ∧ m < 12) : f_M_now σ d m = some (now a d m) := by
  unfold f_M_now; rw [e_M_parent W V 99 hd hm]; rfl
theorem thr12 {a : Ab} (W : WFA a) {d m : Int} (hd : inD d) (ht : thr a d m) : 0 ≤ m ∧ m < 12 := by
  have := many_b W hd; have := ht.1; have := ht.2; omega
theorem e_M_depth_5 {σ : Hp} {a : Ab} (W : WFA a) (V : Vw σ a) {d : Int} (hd : inD d) : ∀ (F : Nat) (s k : Int), thr a d k → isP a d k → k < F → 0 ≤ s → s + k < 100 → Okk (f_M_depth_5 σ d F s k) fun r => r.1 = s + dep a d k := by
  intro F
  induction F with
  | zero => intro s k ht hp hF; have := ht.1; omega
  | succ F ih =>
    intro s k ht hp hF s0 s1
    rw [f_M_depth_5]
    refine ok_ite (fun h => ok_some ?_) (fun h => ?_)
    · have : k = 0 := by have := ht.1; omega
      subst this; rw [dep_0]; show s = s + 0; omega
    · have hb := now_b W hd ht hp (by omega)
      refine ok_grd (by (first | omega | (unfold r32; omega) | (unfold r64; omega) | (simp only [r32, r64] at *; omega))) (ok_eqb (e_M_now W V hd (thr12 W hd ht)) ?_)
      refine ok_mono (ih (s + 1) (now a d k) (thr_lt ht hb.1 (by omega)) hb.2.2 (by omega) (by omega) (by omega)) (fun r hr => ?_)
      rw [hr, dep_s W hd ht hp (by omega)]; omega
theorem e_M_depth {σ : Hp} {a : Ab} (W : WFA a) (V : Vw σ a) {d m : Int} (hd : inD d) (ht : thr a d m) (hp : isP a d m) : f_M_depth σ d m = some (dep a d m) := by
  have h12 := thr12 W hd ht
  unfold f_M_depth; apply ok_eq
  refine ok_call (e_M_depth_5 W V hd zFuel 0 m ht hp (by unfold zFuel; omega) (by omega) (by omega)) (fun r hr => ok_some ?_)
  rw [hr]; omega
theorem e_M_seen_98 {σ : Hp} {a : Ab} (W : WFA a) (V : Vw σ a) {d : Int} (hd : inD d) : ∀ (F : Nat) (P : Prop) (k : Int), thr a d k → isP a d k → k < F → Okk (f_M_seen_98 σ d F (bI P) k) fun r => r.1 = bI (P ∧ opn a d k) := by
  have hd' := inD_b hd
  intro F
  induction F with
  | zero => intro P k ht hp hF; have := ht.1; omega
  | succ F ih =>
    intro P k ht hp hF
    have h12 := thr12 W hd ht
    rw [f_M_seen_98]
    refine ok_ite (fun h => ok_some ?_) (fun h => ?_)
    · have : k = 0 := by have := ht.1; omega
      subst this
      exact bI_iff ⟨fun g => ⟨g, opn_0 a d⟩, fun g => g.1⟩
    · have hb := now_b W hd ht hp (by omega)
      refine ok_grd (by (first | omega | (unfold r32; omega) | (unfold r64; omega) | (simp only [r32, r64] at *; omega))) (ok_grd (by (first | omega | (unfold r32; omega) | (unfold r64; omega) | (simp only [r32, r64] at *; omega))) (ok_grd (by omega) ?_))
      rw [w_hid V]
      refine ok_call (P := fun r => r = bI (a.hid (12 * d + k) = 0)) ?_ ?_
      · refine ok_ite (fun g => ok_some (bI_f g).symm) (fun g => ok_some (bI_t (by omega)).symm)
      · rintro r rfl
        refine ok_eqb (e_M_now W V hd h12) ?_
        rw [iand_b]
        refine ok_mono (ih _ (now a d k) (thr_lt ht hb.1 (by omega)) hb.2.2 (by omega)) (fun r hr => ?_)
        rw [hr]
        refine bI_iff ?_
        rw [opn_s W hd ht hp (by omega)]
        exact ⟨fun g => ⟨g.1.1, g.1.2, g.2⟩, fun g => ⟨⟨g.1, g.2.1⟩, g.2.2⟩⟩
theorem e_M_seen {σ : Hp} {a : Ab} (W : WFA a) (V : Vw σ a) {d m : Int} (hd : inD d) (ht : thr a d m) : f_M_seen σ d m = some (bI (seeP a d m)) := by
  have hd' := inD_b hd
  have h12 := thr12 W hd ht
  have hk2 := (show ∀ d m : Int, inD d → thr a d m → a.kind (12 * d + m) = 0 ∨ a.kind (12 * d + m) = 1 ∨ a.kind (12 * d + m) = 2 from W 2) d m hd ht
  have h4 := (show ∀ d m : Int, inD d → thr a d m → a.kind (12 * d + m) = 1 → 1 ≤ a.set (12 * d + m) ∧ a.set (12 * d + m) ≤ 4095 ∧ ∀ k : Int, 0 ≤ k → k < 12 → bitP (a.set (12 * d + m)) k → k < m ∧ isP a d k from W 4) d m hd ht
  have hp0 : isP a d 0 := by show a.kind (12 * d + 0) = 0; rw [show 12 * d + 0 = 12 * d by omega]; exact (W 1 d hd).1
  have ht0 : thr a d 0 := thr_lt ht (by omega) h12.1
  have L : ∀ (F : Nat) (k : Int), 0 ≤ k → k ≤ 12 → 12 - k < F → a.kind (12 * d + m) ≠ 2 → Okk (f_M_seen_22 σ d m F (bI (∀ i : Int, 0 ≤ i → i < k → (if a.kind (12 * d + m) = 1 then bitP (a.set (12 * d + m)) i else i = m) → opn a d i)) k) fun r => r.1 = bI (∀ i : Int, 0 ≤ i → i < 12 → (if a.kind (12 * d + m) = 1 then bitP (a.set (12 * d + m)) i else i = m) → opn a d i) := by
    intro F
    induction F with
    | zero => intro k k0 k1 hF; omega
    | succ F ih =>
      intro k k0 k1 hF hn2
      rw [f_M_seen_22]
      refine ok_ite (fun h => ok_some (by rw [show k = 12 by omega])) (fun h => ?_)
      rw [w_kind V, w_set V]
      refine ok_grd (by (first | omega | (unfold r32; omega) | (unfold r64; omega) | (simp only [r32, r64] at *; omega))) (ok_grd (by (first | omega | (unfold r32; omega) | (unfold r64; omega) | (simp only [r32, r64] at *; omega))) (ok_grd (by omega) ?_))
      refine ok_call (P := fun r => r = bI (if a.kind (12 * d + m) = 1 then bitP (a.set (12 * d + m)) k else k = m)) ?_ ?_
      · by_cases h1 : a.kind (12 * d + m) = 1
        · rw [if_neg (by intro g; exact g h1), if_pos h1]
          have hs := h4 h1
          have e := sb_1 (by omega : 0 ≤ a.set (12 * d + m)) (by omega) k0 (by omega : k < 13)
          refine ok_grd (by (first | omega | (unfold r32; omega) | (unfold r64; omega) | (simp only [r32, r64] at *; omega))) (ok_grd (by (first | omega | (unfold r32; omega) | (unfold r64; omega) | (simp only [r32, r64] at *; omega))) (ok_grd (by omega) (ok_ite (fun g => ok_some (bI_f (fun q => g (e.mpr q))).symm) (fun g => ok_some (bI_t (e.mp (by omega))).symm))))
        · rw [if_pos h1, if_neg h1]
          exact ok_ite (fun g => ok_some (bI_f g).symm) (fun g => ok_some (bI_t (by omega)).symm)
      · rintro r rfl
        by_cases hi : (if a.kind (12 * d + m) = 1 then bitP (a.set (12 * d + m)) k else k = m)
        · have hpk : thr a d k ∧ isP a d k := by
            by_cases h1 : a.kind (12 * d + m) = 1
            · rw [if_pos h1] at hi
              have := (h4 h1).2.2 k k0 (by omega) hi
              exact ⟨thr_lt ht k0 (by omega), this.2⟩
            · rw [if_neg h1] at hi
              subst hi
              exact ⟨ht, by show a.kind _ = 0; omega⟩
          rw [bI_t hi, if_neg (by omega)]
          refine ok_bind (ok_some (ok_call (e_M_seen_98 W V hd zFuel _ k hpk.1 hpk.2 (by unfold zFuel; omega)) ?_))
          intro r hr
          rw [hr]
          refine ok_grd (by (first | omega | (unfold r32; omega) | (unfold r64; omega) | (simp only [r32, r64] at *; omega))) ?_
          have := ih (k + 1) (by omega) (by omega) (by omega) hn2
          refine ok_mono ?_ (fun r hr => hr)
          rw [show bI ((∀ i : Int, 0 ≤ i → i < k → (if a.kind (12 * d + m) = 1 then bitP (a.set (12 * d + m)) i else i = m) → opn a d i) ∧ opn a d k) = bI (∀ i : Int, 0 ≤ i → i < k + 1 → (if a.kind (12 * d + m) = 1 then bitP (a.set (12 * d + m)) i else i = m) → opn a d i) from bI_iff ⟨fun g i i0 i1 hh => by
            by_cases e : i = k
            · rw [e]; exact g.2
            · exact g.1 i i0 (by omega) hh, fun g => ⟨fun i i0 i1 hh => g i i0 (by omega) hh, g k k0 (by omega) hi⟩⟩]
          exact this
        · rw [bI_f hi, if_pos rfl]
          refine ok_bind (ok_some (ok_call (e_M_seen_98 W V hd zFuel _ 0 ht0 hp0 (by unfold zFuel; omega)) ?_))
          intro r hr
          rw [hr]
          refine ok_grd (by (first | omega | (unfold r32; omega) | (unfold r64; omega) | (simp only [r32, r64] at *; omega))) ?_
          have := ih (k + 1) (by omega) (by omega) (by omega) hn2
          rw [show bI ((∀ i : Int, 0 ≤ i → i < k → (if a.kind (12 * d + m) = 1 then bitP (a.set (12 * d + m)) i else i = m) → opn a d i) ∧ opn a d 0) = bI (∀ i : Int, 0 ≤ i → i < k + 1 → (if a.kind (12 * d + m) = 1 then bitP (a.set (12 * d + m)) i else i = m) → opn a d i) from bI_iff ⟨fun g i i0 i1 hh => by
            by_cases e : i = k
            · rw [e] at hh; exact absurd hh hi
            · exact g.1 i i0 (by omega) hh, fun g => ⟨fun i i0 i1 hh => g i i0 (by omega) hh, opn_0 a d⟩⟩]
          exact this
  unfold f_M_seen; apply ok_eq
  rw [w_kind V]
  refine ok_grd (by (first | omega | (unfold r32; omega) | (unfold r64; omega) | (simp only [r32, r64] at *; omega))) (ok_grd (by (first | omega | (unfold r32; omega) | (unfold r64; omega) | (simp only [r32, r64] at *; omega))) (ok_grd (by omega) (ok_ite (fun hn2 => ?_) (fun h2 => ?_))))
  · have := L zFuel 0 (by omega) (by omega) (by unfold zFuel; omega) hn2
    rw [bI_t (fun i i0 i1 => absurd i1 (by omega))] at this
    refine ok_call this (fun r hr => ?_)
    rw [hr]
    refine ok_grd (bI_r _) (ok_some (bI_iff ?_))
    unfold seeP
    by_cases h1 : a.kind (12 * d + m) = 1
    · simp only [if_pos h1]
      exact ⟨fun g => ⟨fun e => by omega, fun _ => g⟩, fun g => g.2 h1⟩
    · simp only [if_neg h1]
      refine ⟨fun g => ⟨fun _ => g m h12.1 h12.2 rfl, fun e => absurd e h1⟩, fun g i i0 i1 e => ?_⟩
      rw [e]; exact g.1 (by omega)
  · refine ok_grd (by omega) (ok_some (bI_t ⟨fun e => ?_, fun e => ?_⟩).symm) <;> omega
theorem e_M_areSeen {σ : Hp} {a : Ab} (W : WFA a) (V : Vw σ a) {t x y : Int} (ht : thr a 0 t) (hx : thr a 1 x) (hy : thr a 2 y) : f_M_areSeen σ t x y = some (bI (seeP a 0 t ∧ seeP a 1 x ∧ seeP a 2 y)) := by
  unfold f_M_areSeen; apply ok_eq
  refine ok_eqb (e_M_seen W V (Or.inl rfl) ht) ?_
  by_cases h1 : seeP a 0 t
  · rw [bI_t h1, if_neg (by omega)]
    refine ok_bind (ok_eqb (e_M_seen W V (Or.inr (Or.inl rfl)) hx) ?_)
    by_cases h2 : seeP a 1 x
    · rw [bI_t h2, if_neg (by omega)]
      refine ok_eqb (e_M_seen W V (Or.inr (Or.inr rfl)) hy) ?_
      by_cases h3 : seeP a 2 y
      · rw [bI_t h3, if_neg (by omega)]
        exact ok_some (ok_grd (by omega) (ok_some (bI_t ⟨h1, h2, h3⟩).symm))
      · rw [bI_f h3, if_pos rfl]
        exact ok_some (ok_grd (by omega) (ok_some (bI_f (fun g => h3 g.2.2)).symm))
    · rw [bI_f h2, if_pos rfl]
      exact ok_some (ok_grd (by omega) (ok_some (bI_f (fun g => h2 g.2.1)).symm))
  · rw [bI_f h1, if_pos rfl]
    exact ok_bind (ok_some (ok_grd (by omega) (ok_some (bI_f (fun g => h1 g.1)).symm)))

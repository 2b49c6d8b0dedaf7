/-! ===== the reference's world: what it holds ===== -/
def Vw (σ : Hp) (a : Ab) : Prop := ∀ (q : Nat) (j : Int), vwP q j → σ q j = a q j
def mdl (σ σ' : Hp) : Prop := ∀ q : Nat, q < 129 ∨ 169 < q → σ' q = σ q
def cls (σ σ' : Hp) : Prop := ∀ q : Nat, 129 ≤ q → q ≤ 170 → σ' q = σ q
section
variable {σ : Hp} {a : Ab}
theorem w_many (V : Vw σ a) (i : Int) : σ 130 i = a.many i := V _ _ (Or.inl ⟨by decide, by decide⟩)
theorem w_kind (V : Vw σ a) (i : Int) : σ 131 i = a.kind i := V _ _ (Or.inl ⟨by decide, by decide⟩)
theorem w_par (V : Vw σ a) (i : Int) : σ 132 i = a.par i := V _ _ (Or.inl ⟨by decide, by decide⟩)
theorem w_sign (V : Vw σ a) (i : Int) : σ 133 i = a.sign i := V _ _ (Or.inl ⟨by decide, by decide⟩)
theorem w_set (V : Vw σ a) (i : Int) : σ 134 i = a.set i := V _ _ (Or.inl ⟨by decide, by decide⟩)
theorem w_order (V : Vw σ a) (i : Int) : σ 135 i = a.order i := V _ _ (Or.inl ⟨by decide, by decide⟩)
theorem w_hid (V : Vw σ a) (i : Int) : σ 136 i = a.hid i := V _ _ (Or.inl ⟨by decide, by decide⟩)
theorem w_what (V : Vw σ a) (i : Int) : σ 137 i = a.what i := V _ _ (Or.inl ⟨by decide, by decide⟩)
theorem w_one (V : Vw σ a) (i : Int) : σ 138 i = a.one i := V _ _ (Or.inl ⟨by decide, by decide⟩)
theorem w_two (V : Vw σ a) (i : Int) : σ 139 i = a.two i := V _ _ (Or.inl ⟨by decide, by decide⟩)
theorem w_len (V : Vw σ a) (i : Int) : σ 140 i = a.len i := V _ _ (Or.inl ⟨by decide, by decide⟩)
theorem w_vd (V : Vw σ a) (i : Int) : σ 141 i = a.vd i := V _ _ (Or.inl ⟨by decide, by decide⟩)
theorem w_vm (V : Vw σ a) (i : Int) : σ 142 i = a.vm i := V _ _ (Or.inl ⟨by decide, by decide⟩)
theorem w_vp (V : Vw σ a) (i : Int) : σ 143 i = a.vp i := V _ _ (Or.inl ⟨by decide, by decide⟩)
theorem w_vt (V : Vw σ a) (i : Int) : σ 144 i = a.vt i := V _ _ (Or.inl ⟨by decide, by decide⟩)
theorem w_place (V : Vw σ a) (i : Int) : σ 145 i = a.place i := V _ _ (Or.inl ⟨by decide, by decide⟩)
theorem w_mk (V : Vw σ a) (i : Int) : σ 146 i = a.mk i := V _ _ (Or.inl ⟨by decide, by decide⟩)
theorem w_ma (V : Vw σ a) (i : Int) : σ 147 i = a.ma i := V _ _ (Or.inl ⟨by decide, by decide⟩)
theorem w_mb (V : Vw σ a) (i : Int) : σ 148 i = a.mb i := V _ _ (Or.inl ⟨by decide, by decide⟩)
theorem w_md (V : Vw σ a) (i : Int) : σ 149 i = a.md i := V _ _ (Or.inl ⟨by decide, by decide⟩)
theorem w_ft (V : Vw σ a) (i : Int) : σ 150 i = a.ft i := V _ _ (Or.inl ⟨by decide, by decide⟩)
theorem w_fa (V : Vw σ a) (i : Int) : σ 151 i = a.fa i := V _ _ (Or.inl ⟨by decide, by decide⟩)
theorem w_fb (V : Vw σ a) (i : Int) : σ 152 i = a.fb i := V _ _ (Or.inl ⟨by decide, by decide⟩)
theorem w_fm (V : Vw σ a) (i : Int) : σ 153 i = a.fm i := V _ _ (Or.inl ⟨by decide, by decide⟩)
theorem w_fv (V : Vw σ a) (i : Int) : σ 154 i = a.fv i := V _ _ (Or.inl ⟨by decide, by decide⟩)
theorem w_st (V : Vw σ a) (i : Int) : σ 155 i = a.st i := V _ _ (Or.inl ⟨by decide, by decide⟩)
theorem w_sa (V : Vw σ a) (i : Int) : σ 156 i = a.sa i := V _ _ (Or.inl ⟨by decide, by decide⟩)
theorem w_sb (V : Vw σ a) (i : Int) : σ 157 i = a.sb i := V _ _ (Or.inl ⟨by decide, by decide⟩)
theorem w_sm (V : Vw σ a) (i : Int) : σ 158 i = a.sm i := V _ _ (Or.inl ⟨by decide, by decide⟩)
theorem w_sv (V : Vw σ a) (i : Int) : σ 159 i = a.sv i := V _ _ (Or.inl ⟨by decide, by decide⟩)
theorem w_kept (V : Vw σ a) (i : Int) : σ 162 i = a.kept i := V _ _ (Or.inr (Or.inl ⟨by decide, by decide⟩))
theorem w_chos (V : Vw σ a) (i : Int) : σ 163 i = a.chos i := V _ _ (Or.inr (Or.inl ⟨by decide, by decide⟩))
theorem w_pick (V : Vw σ a) (i : Int) : σ 164 i = a.pick i := V _ _ (Or.inr (Or.inl ⟨by decide, by decide⟩))
theorem w_picks (V : Vw σ a) (i : Int) : σ 165 i = a.picks i := V _ _ (Or.inr (Or.inl ⟨by decide, by decide⟩))
theorem w_moves (V : Vw σ a) : σ 129 15 = a.moves := V _ _ (Or.inr (Or.inr ⟨rfl, by decide⟩))
theorem w_asNow (V : Vw σ a) : σ 129 16 = a.asNow := V _ _ (Or.inr (Or.inr ⟨rfl, by decide⟩))
theorem w_leave (V : Vw σ a) : σ 129 17 = a.leave := V _ _ (Or.inr (Or.inr ⟨rfl, by decide⟩))
theorem w_measures (V : Vw σ a) : σ 129 23 = a.measures := V _ _ (Or.inr (Or.inr ⟨rfl, by decide⟩))
theorem w_facts (V : Vw σ a) : σ 129 29 = a.facts := V _ _ (Or.inr (Or.inr ⟨rfl, by decide⟩))
theorem w_saved (V : Vw σ a) : σ 129 35 = a.saved := V _ _ (Or.inr (Or.inr ⟨rfl, by decide⟩))
theorem w_keeps (V : Vw σ a) : σ 129 40 = a.keeps := V _ _ (Or.inr (Or.inr ⟨rfl, by decide⟩))
theorem w_hits (V : Vw σ a) : σ 129 41 = a.hits := V _ _ (Or.inr (Or.inr ⟨rfl, by decide⟩))
end
theorem Vw_h {σ : Hp} {a : Ab} (V : Vw σ a) {q : Nat} {i v : Int} (h : ¬ vwP q i) : Vw (hset σ q i v) a := by
  intro r j hr
  by_cases e : r = q ∧ j = i
  · obtain ⟨rfl, rfl⟩ := e; exact absurd hr h
  · have : hset σ q i v r j = σ r j := if_neg e
    rw [this]; exact V r j hr
theorem Vw_s {σ : Hp} {a : Ab} (V : Vw σ a) {q : Nat} {i v : Int} : Vw (hset σ q i v) (hset a q i v) := by
  intro r j hr
  by_cases e : r = q ∧ j = i
  · obtain ⟨rfl, rfl⟩ := e; rw [hs_eq, hs_eq]
  · have h1 : hset σ q i v r j = σ r j := if_neg e
    have h2 : hset a q i v r j = a r j := if_neg e
    rw [h1, h2]; exact V r j hr
theorem Vw_c {σ σ' : Hp} {a : Ab} (h : cls σ σ') (V : Vw σ a) : Vw σ' a := by
  intro r j hr
  have : 129 ≤ r ∧ r ≤ 170 := by unfold vwP at hr; omega
  rw [h r this.1 this.2]; exact V r j hr
theorem mdl_r (σ : Hp) : mdl σ σ := fun _ _ => rfl
theorem mdl_t {σ σ' σ'' : Hp} (h1 : mdl σ σ') (h2 : mdl σ' σ'') : mdl σ σ'' := fun q hq => (h2 q hq).trans (h1 q hq)
theorem mdl_h {σ : Hp} {q : Nat} {i v : Int} (h : 129 ≤ q ∧ q ≤ 169) : mdl σ (hset σ q i v) := fun r hr => hset_ne (by omega)
theorem cls_r (σ : Hp) : cls σ σ := fun _ _ _ => rfl
theorem cls_t {σ σ' σ'' : Hp} (h1 : cls σ σ') (h2 : cls σ' σ'') : cls σ σ'' := fun q h h' => (h2 q h h').trans (h1 q h h')
theorem cls_h {σ : Hp} {q : Nat} {i v : Int} (h : q < 129 ∨ 170 < q) : cls σ (hset σ q i v) := fun r h1 h2 => hset_ne (by omega)
theorem inD_of {d : Int} (h : 0 ≤ d ∧ d ≤ 2) : inD d := by unfold inD; omega
theorem inD_b {d : Int} (h : inD d) : 0 ≤ d ∧ d ≤ 2 := by unfold inD at h; omega
theorem lcm_lt {x y : Int} : lcm x y < 0 ↔ x < y := by
  unfold lcm
  by_cases h : x < y
  · rw [if_pos h]; omega
  · by_cases h2 : x = y
    · rw [if_neg h, if_pos h2]; omega
    · rw [if_neg h, if_neg h2]; omega
theorem lcm_gt {x y : Int} : 0 < lcm x y ↔ y < x := by
  unfold lcm
  by_cases h : x < y
  · rw [if_pos h]; omega
  · by_cases h2 : x = y
    · rw [if_neg h, if_pos h2]; omega
    · rw [if_neg h, if_neg h2]; omega
theorem lcm_eq {x y : Int} : lcm x y = 0 ↔ x = y := by
  unfold lcm
  by_cases h : x < y
  · rw [if_pos h]; omega
  · by_cases h2 : x = y
    · rw [if_neg h, if_pos h2]; omega
    · rw [if_neg h, if_neg h2]; omega
theorem lcm_le {x y : Int} : lcm x y ≤ 0 ↔ x ≤ y := by
  unfold lcm
  by_cases h : x < y
  · rw [if_pos h]; omega
  · by_cases h2 : x = y
    · rw [if_neg h, if_pos h2]; omega
    · rw [if_neg h, if_neg h2]; omega
theorem lcm_ge {x y : Int} : 0 ≤ lcm x y ↔ y ≤ x := by
  unfold lcm
  by_cases h : x < y
  · rw [if_pos h]; omega
  · by_cases h2 : x = y
    · rw [if_neg h, if_pos h2]; omega
    · rw [if_neg h, if_neg h2]; omega
theorem iand_b (P Q : Prop) : iand (bI P) (bI Q) = bI (P ∧ Q) := by
  by_cases h : P <;> by_cases h2 : Q
  · rw [bI_t h, bI_t h2, bI_t ⟨h, h2⟩]; decide
  · rw [bI_t h, bI_f h2, bI_f (fun g => h2 g.2)]; decide
  · rw [bI_f h, bI_t h2, bI_f (fun g => h g.1)]; decide
  · rw [bI_f h, bI_f h2, bI_f (fun g => h g.1)]; decide
def mem4 (a : Ab) (t x y m : Int) : Prop := thr a 0 t ∧ thr a 1 x ∧ thr a 2 y ∧ 0 ≤ m ∧ m < a.measures
theorem thr12 {a : Ab} (W : WFA a) {d m : Int} (hd : inD d) (ht : thr a d m) : 0 ≤ m ∧ m < 12 := by
  have := many_b W hd; have := ht.1; have := ht.2; omega

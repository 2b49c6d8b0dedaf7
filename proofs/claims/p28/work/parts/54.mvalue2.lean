/-! ===== the reference's formulas and values ===== -/
theorem vch_b (b : Int) (σ : Hp) (v : Int) : vch b σ (hset σ 129 46 v) := ⟨fun q q1 _ _ _ => hset_ne q1, fun j hj => hs_nj hj, fun j _ => by rw [hset_ne (by omega)]⟩
theorem vch_m (b : Int) (σ : Hp) (i j v w : Int) : vch b σ (hset (hset σ 161 i v) 160 j w) := ⟨fun q _ h1 h2 _ => by rw [hset_ne h1, hset_ne h2], fun j _ => by rw [hset_ne (by omega), hset_ne (by omega)], fun j _ => by rw [hset_ne (by omega), hset_ne (by omega)]⟩
/-- only the memo may differ -/
def wch (σ σ' : Hp) : Prop := ∀ q : Nat, q ≠ 160 → q ≠ 161 → σ' q = σ q
theorem wch_m (σ : Hp) (i j v w : Int) : wch σ (hset (hset σ 161 i v) 160 j w) := fun q h1 h2 => by rw [hset_ne h1, hset_ne h2]
theorem wch_v {σ σ' : Hp} (h : wch σ σ') (b : Int) : vch b σ σ' := ⟨fun q _ h1 h2 _ => h q h1 h2, fun j _ => by rw [h 129 (by omega) (by omega)], fun j _ => by rw [h 166 (by omega) (by omega)]⟩
theorem wch_t {σ σ' σ'' : Hp} (h1 : wch σ σ') (h2 : wch σ' σ'') : wch σ σ'' := fun q a b => (h2 q a b).trans (h1 q a b)

/-! ===== throws, and the cells that are made ===== -/
theorem ln_obj {p : Nat} (h : sh p < 12) : ln p = 0 := by
  by_cases hp : p < 171
  · have h1 : ∀ q, q < 171 → sh q < 12 → ln q = 0 := by decide +kernel
    exact h1 p hp h
  · unfold sh at h
    unfold ln
    rw [if_neg hp] at h ⊢
    split at h
    · rename_i h2; rw [if_pos h2]
    · omega
theorem sh_le (p : Nat) : sh p ≤ 16 := by
  by_cases hp : p < 171
  · have h1 : ∀ q, q < 171 → sh q ≤ 16 := by decide +kernel
    exact h1 p hp
  · unfold sh
    rw [if_neg hp]
    split <;> omega
theorem len16 {p : Nat} (h : sh p = 16) : ln p = 13 := by
  by_cases hp : p < 171
  · have h1 : ∀ q, q < 171 → sh q = 16 → ln q = 13 := by decide +kernel
    exact h1 p hp h
  · unfold sh at h
    rw [if_neg hp] at h
    split at h <;> omega
/-- a pointer into the world, or null -/
def pOk (n : Nat) (x : Int) : Prop := x < 0 ∨ x.toNat < n
theorem rfo_p {al al' : Nat → Nat} {n : Nat} {x : Int} (h : ∀ p, p < n → al' p = al p) (hx : pOk n x) : rfo al' x = rfo al x := by
  unfold rfo
  rcases hx with hx | hx
  · rw [if_pos hx, if_pos hx]
  · rw [h _ hx]
theorem fOk.p {n : Nat} {x : Int} (h : fOk n x) : pOk n x := by
  rcases h with rfl | ⟨P, rfl, h⟩
  · exact Or.inl (by omega)
  · exact Or.inr (by rw [Int.toNat_natCast]; exact h.1)
theorem TyM.p4 {md : Bool} {n : Nat} {σ : Hp} {p k j : Nat} {o : Int} (hT : TyM md n σ) (hs : Sh n p k 0) (hf : (zFld k)[j]? = some (4, o)) : pOk n (σ p j) := by
  rcases hT.2.2.1 p k j 4 o hs hf with h | ⟨-, h⟩
  · rw [h]
    cases md with
    | false =>
      have := hT.2.2.2.2 rfl p k j o hs hf h
      exact Or.inr this.2
    | true =>
      by_cases hz : (p : Int) + o < 0
      · exact Or.inl hz
      · have hk := zFld_lt hf
        have hex : ∀ k, k < 12 → ∀ j, j < (zFld k).length → (zTgt k)[j]?.isSome = true := by decide +kernel
        have hj : j < (zFld k).length := (List.getElem?_eq_some_iff.mp hf).1
        obtain ⟨⟨k', L'⟩, ht⟩ := Option.isSome_iff_exists.mp (hex k hk j hj)
        have := Sh.tgt (P' := ((p : Int) + o).toNat) (hT.1 rfl) hs hf ht (by omega)
        exact Or.inr this.1
  · rw [h]; exact Or.inl (by omega)
/-- only the pointers into the world matter -/
theorem cel_al {md : Bool} {n p : Nat} {σ : Hp} {al al' : Nat → Nat} {cs : Cids} {D : va_G} {H : Heap} {a : Nat} (hp : p < n) (h : ∀ p, p < n → al' p = al p) (hT : TyM md n σ) (hv : va_at D vwCl (a, cel al cs (σ p) p) H) : va_at D vwCl (a, cel al' cs (σ p) p) H := by
  have hs : Sh n p (sh p) (ln p) := ⟨hp, rfl, rfl⟩
  by_cases h1 : sh p < 12
  · have e : cel al' cs (σ p) p = cel al cs (σ p) p := by
      unfold cel
      rw [if_pos h1, if_pos h1]
      congr 2
      unfold flds
      apply List.map_congr_left
      intro j hj
      have hj2 : j < (zFld (sh p)).length := List.mem_range.mp hj
      obtain ⟨⟨c, o⟩, hz⟩ : ∃ x, (zFld (sh p))[j]? = some x := ⟨_, List.getElem?_eq_getElem hj2⟩
      rw [List.getD_eq_getElem?_getD, hz]
      have hs0 : Sh n p (sh p) 0 := ⟨hp, rfl, ln_obj h1⟩
      show fvl al' c (σ p j) = fvl al c (σ p j)
      match c, hz with
      | 0, _ => rfl
      | 1, _ => rfl
      | 2, _ => rfl
      | 3, hz => exact congrArg va_rf (rfo_p h (fOk.p (hT.2.2.1 p _ j 3 o hs0 hz)))
      | 4, hz => exact congrArg va_rf (rfo_p h (hT.p4 hs0 hz))
      | c + 5, hz =>
        have hex : ∀ k, k < 12 → ∀ j, j < (zFld k).length → ((zFld k)[j]?.map fun q => q.1) = some 0 ∨ ((zFld k)[j]?.map fun q => q.1) = some 1 ∨ ((zFld k)[j]?.map fun q => q.1) = some 2 ∨ ((zFld k)[j]?.map fun q => q.1) = some 3 ∨ ((zFld k)[j]?.map fun q => q.1) = some 4 := by decide +kernel
        have := hex _ h1 j hj2
        rw [hz] at this
        simp at this
    rw [e]; exact hv
  · have h16 := sh_le p
    rcases (show sh p = 12 ∨ sh p = 13 ∨ sh p = 14 ∨ sh p = 15 ∨ sh p = 16 by omega) with e | e | e | e | e
    · have e2 : cel al' cs (σ p) p = cel al cs (σ p) p := by simp [cel, e]
      rw [e2]; exact hv
    · have e2 : cel al' cs (σ p) p = cel al cs (σ p) p := by simp [cel, e]
      rw [e2]; exact hv
    · have e2 : cel al' cs (σ p) p = cel al cs (σ p) p := by simp [cel, e]
      rw [e2]; exact hv
    · have e2 : cel al' cs (σ p) p = cel al cs (σ p) p := by
        have e3 : (fun j : Nat => rfo al' (σ p j)) = fun j : Nat => rfo al (σ p j) := funext fun j => rfo_p h (fOk.p (hT.2.2.2.1 p 15 (ln p) j (by rw [← e]; exact hs) (by omega)))
        simp [cel, e, e3]
      rw [e2]; exact hv
    · have c1 : ∀ al : Nat → Nat, cel al cs (σ p) p = .inl (cs.2.2.2.2, 13, .inr (.inr (.inr (.inr fun j => rfo al (σ p j))))) := fun al => by simp [cel, e, len16 e]
      rw [c1] at hv ⊢
      have hv : H[a]? = some (arrV cs.2.2.2.2 13 fun j => va_rf (rfo al (σ p j))) := hv
      show H[a]? = some (arrV cs.2.2.2.2 13 fun j => va_rf (rfo al' (σ p j)))
      rw [hv]
      congr 1
      unfold arrV
      congr 2
      funext j
      refine congrArg va_rf (rfo_p h ?_).symm
      have hv2 : tyA n p 16 13 (j.val : Int) (σ p j.val) := hT.2.2.2.1 p 16 13 _ (by rw [← e, ← len16 e]; exact hs) (by omega)
      have hj := j.isLt
      have hv3 : σ p (j.val : Int) = p + 1 + (j.val : Int) := hv2 (by omega) (by omega)
      rw [hv3]
      refine Or.inr ?_
      have hn : p + 13 < n := by
        cases hm : md with
        | true => subst hm; have := (Sh.row (i := 12) (hT.1 rfl) (by rw [← e, ← len16 e]; exact hs : Sh n p 16 13) (by omega)).1; omega
        | false => subst hm; exact (hT.2.1 rfl).2 p hp e
      omega
theorem wsv_al {md : Bool} {n : Nat} {σ : Hp} {al al' : Nat → Nat} {cs : Cids} {D : va_G} {H : Heap} (h : ∀ p, p < n → al' p = al p) (hT : TyM md n σ) (hP : va_P D vwCl (wsv al cs σ n) H) : va_P D vwCl (wsv al' cs σ n) H := by
  intro k q hk
  have hk2 : k < n := by
    have := (List.getElem?_eq_some_iff.mp hk).1
    rwa [wsv_len] at this
  rw [wsv_get hk2] at hk
  cases hk
  have := hP k _ (wsv_get hk2)
  rw [h k hk2]
  exact cel_al hk2 h hT this
theorem wsv_succ {al : Nat → Nat} {cs : Cids} {σ : Hp} {n : Nat} : wsv al cs σ (n + 1) = wsv al cs σ n ++ [(al n, cel al cs (σ n) n)] := by
  unfold wsv
  rw [List.range_succ, List.map_append]
  rfl
theorem wsv_congr {al : Nat → Nat} {cs : Cids} {σ σ' : Hp} {n : Nat} (h : ∀ p, p < n → σ' p = σ p) : wsv al cs σ' n = wsv al cs σ n := by
  unfold wsv
  apply List.map_congr_left
  intro p hp
  rw [h p (List.mem_range.mp hp)]
def alUp (al : Nat → Nat) (n q : Nat) : Nat → Nat := fun p => if p = n then q else al p
theorem alUp_lt {al : Nat → Nat} {n q : Nat} : ∀ p, p < n → alUp al n q p = al p := fun p hp => by unfold alUp; rw [if_neg (by omega)]
theorem alUp_n {al : Nat → Nat} {n q : Nat} : alUp al n q n = q := by unfold alUp; rw [if_pos rfl]
/-- one more cell -/
theorem grow {md : Bool} {n q : Nat} {σ σ' : Hp} {al : Nat → Nat} {cs : Cids} {D : va_G} {H : Heap} {A : Nat → Prop} {e : va_E} (hT : TyM md n σ) (ho : ∀ p, p < n → σ' p = σ p) (he : cel (alUp al n q) cs (σ' n) n = e)
    (hP0 : va_P D vwCl (wsv al cs σ n) H) (hP : va_P D vwCl (wsv al cs σ n ++ [(q, e)]) H) (hD : va_D A (wsv al cs σ n ++ [(q, e)])) : va_P D vwCl (wsv (alUp al n q) cs σ' (n + 1)) H ∧ va_D A (wsv (alUp al n q) cs σ' (n + 1)) := by
  have h1 : va_P D vwCl (wsv (alUp al n q) cs σ' n) H := by rw [wsv_congr ho]; exact wsv_al alUp_lt hT hP0
  have h2 : va_at D vwCl (q, e) H := hP n (q, e) (by rw [List.getElem?_append_right (by rw [wsv_len]; omega), wsv_len, Nat.sub_self]; rfl)
  rw [wsv_succ, he, alUp_n]
  refine ⟨va_P.app h1 (fun k x hx => ?_), ?_⟩
  · have h0 : k < 1 := (List.getElem?_eq_some_iff.mp hx).1
    rw [show k = 0 by omega] at hx
    cases hx
    exact h2
  · have key : ∀ (k : Nat) (x : Nat × va_E), (wsv (alUp al n q) cs σ' n ++ [(q, e)])[k]? = some x → ∃ y, (wsv al cs σ n ++ [(q, e)])[k]? = some y ∧ y.1 = x.1 := by
      intro k x hx
      by_cases hl : k < n
      · rw [List.getElem?_append_left (by rw [wsv_len]; exact hl), wsv_get hl] at hx
        cases hx
        exact ⟨_, by rw [List.getElem?_append_left (by rw [wsv_len]; exact hl), wsv_get hl], (alUp_lt k hl).symm⟩
      · rw [List.getElem?_append_right (by rw [wsv_len]; omega), wsv_len] at hx
        exact ⟨x, by rw [List.getElem?_append_right (by rw [wsv_len]; omega), wsv_len]; exact hx, rfl⟩
    refine ⟨fun i j x y hi hj hxy => ?_, fun k x hx => ?_⟩
    · obtain ⟨x0, h3, h4⟩ := key i x hi
      obtain ⟨y0, h5, h6⟩ := key j y hj
      exact hD.1 i j x0 y0 h3 h5 (h4.trans (hxy.trans h6.symm))
    · obtain ⟨x0, h3, h4⟩ := key k x hx
      rw [← h4]
      exact hD.2 k x0 h3

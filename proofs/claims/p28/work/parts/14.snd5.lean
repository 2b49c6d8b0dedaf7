/-! ===== throws, and the cells that are made ===== -/
theorem sh_cases (p : Nat) : p < 130 ∨ (¬ p < 130 ∧ p < 171 ∧ sh p = 11 ∧ ln p = 0) ∨ (1048576 ≤ p ∧ sh p = 12 ∧ ln p = 60) ∨ (171 ≤ p ∧ p < 1048576 ∧ ((sh p = 2 ∧ ln p = 0) ∨ (sh p = 12 ∧ ln p = 10))) := by
  by_cases h1 : p < 130
  · exact Or.inl h1
  by_cases h2 : p < 171
  · refine Or.inr (Or.inl ⟨h1, h2, sh_gap h1 h2, ?_⟩)
    unfold ln
    rw [if_neg h1, if_pos h2]
  by_cases h3 : 1048576 ≤ p
  · exact Or.inr (Or.inr (Or.inl ⟨h3, sh_big h3⟩))
  refine Or.inr (Or.inr (Or.inr ⟨by omega, by omega, ?_⟩))
  have := sh_fm (p := p) (by omega) (by omega)
  by_cases h4 : (p - 171) % 4 = 0
  · rw [if_pos h4, if_pos h4] at this; exact Or.inl this
  · rw [if_neg h4, if_neg h4] at this; exact Or.inr this
theorem ln_obj {p : Nat} (h : sh p < 12) : ln p = 0 := by
  rcases sh_cases p with hp | ⟨-, -, -, h1⟩ | ⟨-, h1, -⟩ | ⟨-, -, (h1 | h1)⟩
  · have h1 : ∀ q, q < 130 → sh q < 12 → ln q = 0 := by decide +kernel
    exact h1 p hp h
  · exact h1
  · omega
  · exact h1.2
  · omega
theorem sh_le (p : Nat) : sh p ≤ 16 := by
  rcases sh_cases p with hp | ⟨-, -, h1, -⟩ | ⟨-, h1, -⟩ | ⟨-, -, (h1 | h1)⟩
  · have h1 : ∀ q, q < 130 → sh q ≤ 16 := by decide +kernel
    exact h1 p hp
  · omega
  · omega
  · omega
  · omega
theorem len16 {p : Nat} (h : sh p = 16) : ln p = 13 := by
  have h1 : ∀ q, q < 130 → sh q = 16 → ln q = 13 := by decide +kernel
  exact h1 p (sh16 h) h
/-- a pointer into the world, or null -/
def pOk (n : Nat) (x : Int) : Prop := x < 0 ∨ inn n x.toNat
theorem rfo_p {al al' : Nat → Nat} {n : Nat} {x : Int} (h : ∀ p, inn n p → al' p = al p) (hx : pOk n x) : rfo al' x = rfo al x := by
  unfold rfo
  rcases hx with hx | hx
  · rw [if_pos hx, if_pos hx]
  · rw [h _ hx]
theorem fOk.p {n : Nat} {x : Int} (h : fOk n x) : pOk n x := by
  rcases h with rfl | ⟨P, rfl, h⟩
  · exact Or.inl (by omega)
  · exact Or.inr (by rw [Int.toNat_natCast]; exact h.1)
theorem TyM.p4 {md : Bool} {n : Nat} {σ : Hp} {p k j : Nat} {o : Int} (hT : TyM md n σ) (hs : Sh n p k 0) (hf : (zFld k)[j]? = some (4, o)) : pOk n (σ p j) := by
  rcases hT.2.2.1 p k j 4 o hs hf with h | ⟨-, h⟩
  · rw [h]
    cases md with
    | false =>
      have := hT.2.2.2.2 rfl p k j o hs hf h
      exact Or.inr this.2
    | true =>
      by_cases hz : (p : Int) + o < 0
      · exact Or.inl hz
      · have hk := zFld_lt hf
        have hex : ∀ k, k < 12 → ∀ j, j < (zFld k).length → (zTgt k)[j]?.isSome = true := by decide +kernel
        have hj : j < (zFld k).length := (List.getElem?_eq_some_iff.mp hf).1
        obtain ⟨⟨k', L'⟩, ht⟩ := Option.isSome_iff_exists.mp (hex k hk j hj)
        have := Sh.tgt (P' := ((p : Int) + o).toNat) (hT.1 rfl) hs hf ht (by omega)
        exact Or.inr this.1
  · rw [h]; exact Or.inl (by omega)
/-- only the pointers into the world matter -/
theorem cel_al {md : Bool} {n p : Nat} {σ : Hp} {al al' : Nat → Nat} {cs : Cids} {D : va_G} {H : Heap} {a : Nat} (hp : inn n p) (h : ∀ p, inn n p → al' p = al p) (hT : TyM md n σ) (hv : va_at D vwCl (a, cel al cs (σ p) p) H) : va_at D vwCl (a, cel al' cs (σ p) p) H := by
  have hs : Sh n p (sh p) (ln p) := ⟨hp, rfl, rfl⟩
  by_cases h1 : sh p < 12
  · have e : cel al' cs (σ p) p = cel al cs (σ p) p := by
      unfold cel
      rw [if_pos h1, if_pos h1]
      congr 2
      unfold flds
      apply List.map_congr_left
      intro j hj
      have hj2 : j < (zFld (sh p)).length := List.mem_range.mp hj
      obtain ⟨⟨c, o⟩, hz⟩ : ∃ x, (zFld (sh p))[j]? = some x := ⟨_, List.getElem?_eq_getElem hj2⟩
      rw [List.getD_eq_getElem?_getD, hz]
      have hs0 : Sh n p (sh p) 0 := ⟨hp, rfl, ln_obj h1⟩
      show fvl al' c (σ p j) = fvl al c (σ p j)
      match c, hz with
      | 0, _ => rfl
      | 1, _ => rfl
      | 2, _ => rfl
      | 3, hz => exact congrArg va_rf (rfo_p h (fOk.p (hT.2.2.1 p _ j 3 o hs0 hz)))
      | 4, hz => exact congrArg va_rf (rfo_p h (hT.p4 hs0 hz))
      | c + 5, hz =>
        have hex : ∀ k, k < 12 → ∀ j, j < (zFld k).length → ((zFld k)[j]?.map fun q => q.1) = some 0 ∨ ((zFld k)[j]?.map fun q => q.1) = some 1 ∨ ((zFld k)[j]?.map fun q => q.1) = some 2 ∨ ((zFld k)[j]?.map fun q => q.1) = some 3 ∨ ((zFld k)[j]?.map fun q => q.1) = some 4 := by decide +kernel
        have := hex _ h1 j hj2
        rw [hz] at this
        simp at this
    rw [e]; exact hv
  · have h16 := sh_le p
    rcases (show sh p = 12 ∨ sh p = 13 ∨ sh p = 14 ∨ sh p = 15 ∨ sh p = 16 by omega) with e | e | e | e | e
    · have e2 : cel al' cs (σ p) p = cel al cs (σ p) p := by simp [cel, e]
      rw [e2]; exact hv
    · have e2 : cel al' cs (σ p) p = cel al cs (σ p) p := by simp [cel, e]
      rw [e2]; exact hv
    · have e2 : cel al' cs (σ p) p = cel al cs (σ p) p := by simp [cel, e]
      rw [e2]; exact hv
    · have e2 : cel al' cs (σ p) p = cel al cs (σ p) p := by
        have e3 : (fun j : Nat => rfo al' (σ p j)) = fun j : Nat => rfo al (σ p j) := funext fun j => rfo_p h (fOk.p (hT.2.2.2.1 p 15 (ln p) j (by rw [← e]; exact hs) (by omega)))
        simp [cel, e, e3]
      rw [e2]; exact hv
    · have c1 : ∀ al : Nat → Nat, cel al cs (σ p) p = .inl (cs.2.2.2.2, 13, .inr (.inr (.inr (.inr fun j => rfo al (σ p j))))) := fun al => by simp [cel, e, len16 e]
      rw [c1] at hv ⊢
      have hv : H[a]? = some (arrV cs.2.2.2.2 13 fun j => va_rf (rfo al (σ p j))) := hv
      show H[a]? = some (arrV cs.2.2.2.2 13 fun j => va_rf (rfo al' (σ p j)))
      rw [hv]
      congr 1
      unfold arrV
      congr 2
      funext j
      refine congrArg va_rf (rfo_p h ?_).symm
      have hv2 : tyA n p 16 13 (j.val : Int) (σ p j.val) := hT.2.2.2.1 p 16 13 _ (by rw [← e, ← len16 e]; exact hs) (by omega)
      have hj := j.isLt
      have hv3 : σ p (j.val : Int) = p + 1 + (j.val : Int) := hv2 (by omega) (by omega)
      rw [hv3]
      refine Or.inr ?_
      rw [show ((p : Int) + 1 + (j.val : Int)).toNat = p + 1 + j.val by omega]
      cases hm : md with
      | true => subst hm; exact (Sh.row (i := j.val) (hT.1 rfl) (by rw [← e, ← len16 e]; exact hs : Sh n p 16 13) hj).1
      | false =>
        subst hm
        have h3 := hT.2.1 rfl
        have h4 := h3.2 p (inn_lt hp (by omega)) e
        exact inn_of (by omega) (by omega) (by omega)
theorem wsv_al {md : Bool} {n : Nat} {σ : Hp} {al al' : Nat → Nat} {cs : Cids} {D : va_G} {H : Heap} (h : ∀ p, inn n p → al' p = al p) (hT : TyM md n σ) (hP : va_P D vwCl (wsv al cs σ n) H) : va_P D vwCl (wsv al' cs σ n) H :=
  wsv_P.mpr fun p hp => by
    have := wsv_P.mp hP p hp
    rw [h p hp]
    exact cel_al hp h hT this
theorem wsv_congr {al : Nat → Nat} {cs : Cids} {σ σ' : Hp} {n : Nat} (h : ∀ p, inn n p → σ' p = σ p) : wsv al cs σ' n = wsv al cs σ n := by
  unfold wsv
  apply List.map_congr_left
  intro p hp
  rw [h p (ptrs_mem.mp hp)]
/-- more cells -/
theorem growG {md : Bool} {n n' : Nat} {σ σ' : Hp} {al al' : Nat → Nat} {cs : Cids} {D : va_G} {H : Heap} {A : Nat → Prop} {N : Nat → Prop} (hT : TyM md n σ) (hn : ∀ p, inn n' p → inn n p ∨ N p) (ho : ∀ p, inn n p → σ' p = σ p) (ha : ∀ p, inn n p → al' p = al p)
    (hP : va_P D vwCl (wsv al cs σ n) H) (hD : va_D A (wsv al cs σ n)) (hc : ∀ p, N p → va_at D vwCl (al' p, cel al' cs (σ' p) p) H) (h1 : ∀ p q, N p → N q → al' p = al' q → p = q) (h2 : ∀ p q, N p → inn n q → al' p ≠ al q) (h3 : ∀ p, N p → A (al' p)) : va_P D vwCl (wsv al' cs σ' n') H ∧ va_D A (wsv al' cs σ' n') := by
  have hP2 := wsv_P.mp (wsv_al ha hT hP)
  have hD2 := wsv_D.mp hD
  refine ⟨wsv_P.mpr fun p hp => ?_, wsv_D.mpr ⟨fun p q hp hq e => ?_, fun p hp => ?_⟩⟩
  · rcases hn p hp with h | h
    · rw [ho p h]; exact hP2 p h
    · exact hc p h
  · rcases hn p hp with hp | hp <;> rcases hn q hq with hq | hq
    · rw [ha p hp, ha q hq] at e; exact hD2.1 p q hp hq e
    · rw [ha p hp] at e; exact absurd e.symm (h2 q p hq hp)
    · rw [ha q hq] at e; exact absurd e (h2 p q hp hq)
    · exact h1 p q hp hq e
  · rcases hn p hp with h | h
    · rw [ha p h]; exact hD2.2 p h
    · exact h3 p h
theorem app_at {D : va_G} {ws : va_W} {q : Nat} {e : va_E} {H : Heap} (hP : va_P D vwCl (ws ++ [(q, e)]) H) : va_at D vwCl (q, e) H := hP ws.length _ (by rw [List.getElem?_append_right (Nat.le_refl _), Nat.sub_self]; rfl)
theorem app_in {ws : va_W} {x : Nat × va_E} {k : Nat} {y : Nat × va_E} (h : ws[k]? = some y) : (ws ++ [x])[k]? = some y := by
  rw [List.getElem?_append_left (List.getElem?_eq_some_iff.mp h).1]; exact h
theorem app_P {D : va_G} {ws : va_W} {x : Nat × va_E} {H : Heap} (hP : va_P D vwCl (ws ++ [x]) H) : va_P D vwCl ws H := fun k y hy => hP k y (app_in hy)
theorem app_D {A : Nat → Prop} {ws : va_W} {x : Nat × va_E} (hD : va_D A (ws ++ [x])) : va_D A ws := ⟨fun i j p q hi hj e => hD.1 i j p q (app_in hi) (app_in hj) e, fun k q hk => hD.2 k q (app_in hk)⟩
theorem app_q {A : Nat → Prop} {ws : va_W} {q : Nat} {e : va_E} (hD : va_D A (ws ++ [(q, e)])) : A q := hD.2 ws.length (q, e) (by rw [List.getElem?_append_right (Nat.le_refl _), Nat.sub_self]; rfl)
theorem app_ne {A : Nat → Prop} {ws : va_W} {q : Nat} {e : va_E} (hD : va_D A (ws ++ [(q, e)])) {k : Nat} {y : Nat × va_E} (h : ws[k]? = some y) : y.1 ≠ q := fun z => by
  have hl := (List.getElem?_eq_some_iff.mp h).1
  have := hD.1 k ws.length y (q, e) (app_in h) (by rw [List.getElem?_append_right (Nat.le_refl _), Nat.sub_self]; rfl) z
  omega
def alUp (al : Nat → Nat) (n q : Nat) : Nat → Nat := fun p => if p = n then q else al p
theorem alUp_in {al : Nat → Nat} {n P q : Nat} (hP : ¬ inn n P) : ∀ p, inn n p → alUp al P q p = al p := fun p hp => by
  unfold alUp
  by_cases e : p = P
  · subst e; exact absurd hp hP
  · rw [if_neg e]
theorem alUp_n {al : Nat → Nat} {n q : Nat} : alUp al n q n = q := by unfold alUp; rw [if_pos rfl]
/-- one more cell -/
theorem grow {md : Bool} {n n' P q : Nat} {σ σ' : Hp} {al : Nat → Nat} {cs : Cids} {D : va_G} {H : Heap} {A : Nat → Prop} {e : va_E} (hT : TyM md n σ) (hn : ∀ p, inn n' p → inn n p ∨ p = P) (hPn : ¬ inn n P) (ho : ∀ p, inn n p → σ' p = σ p) (he : cel (alUp al P q) cs (σ' P) P = e)
    (hP : va_P D vwCl (wsv al cs σ n ++ [(q, e)]) H) (hD : va_D A (wsv al cs σ n ++ [(q, e)])) : va_P D vwCl (wsv (alUp al P q) cs σ' n') H ∧ va_D A (wsv (alUp al P q) cs σ' n') := by
  refine growG hT hn ho (alUp_in hPn) (app_P hP) (app_D hD) (fun p hp => ?_) (fun p q' hp hq _ => by rw [hp, hq]) (fun p q' hp hq => ?_) (fun p hp => ?_)
  · subst hp; rw [he, alUp_n]; exact app_at hP
  · subst hp; rw [alUp_n]; exact fun z => app_ne hD (wsv_get hq) z.symm
  · subst hp; rw [alUp_n]; exact app_q hD

/-! ===== TimeOrder.insert ===== -/
theorem c_ins29 {σ : Hp} {a : Ab} (C : Chn a (σ 93) (σ 92 0)) {p i0 : Int} (hd : ∀ k : Int, thr a 0 k → isP a 0 k → f_D_depthOf σ 2 k = some (dep a 0 k)) (h0 : 0 ≤ i0) (hp : σ 93 i0 = p) (hpt : thr a 0 p ∧ isP a 0 p) : ∀ (F : Nat) (y : Int), i0 < y → y ≤ σ 92 0 → σ 92 0 - y < F → (∀ j : Int, i0 < j → j < y → dep a 0 p < dep a 0 (σ 93 j)) → Okk (f_TO_insert_29 σ p 2 F y) fun e => i0 < e ∧ e ≤ σ 92 0 ∧ (∀ j : Int, i0 < j → j < e → dep a 0 p < dep a 0 (σ 93 j)) ∧ (e < σ 92 0 → dep a 0 (σ 93 e) ≤ dep a 0 p) := by
  have c0 : 0 < σ 92 0 ∧ σ 92 0 ≤ 12 := C 0
  have c2 : ∀ i : Int, 0 ≤ i → i < σ 92 0 → thr a 0 (σ 93 i) ∧ isP a 0 (σ 93 i) := C 2
  intro F
  induction F with
  | zero => intro y h1 h2 hF; omega
  | succ F ih =>
    intro y h1 h2 hF hr
    rw [f_TO_insert_29]
    refine ok_ite (fun h => ok_some ⟨h1, h2, hr, fun h3 => by omega⟩) (fun h => ok_grd (by omega) ?_)
    have hk := c2 y (by omega) (by omega)
    refine ok_eqb (hd _ hk.1 hk.2) (ok_eqb (hd p hpt.1 hpt.2) (ok_ite (fun h2 => ok_some ⟨h1, by omega, hr, fun _ => h2⟩) (fun h2 => ok_grd (by (first | omega | (unfold r32; omega) | (unfold r64; omega) | (simp only [r32, r64] at *; omega))) ?_)))
    refine ih (y + 1) (by omega) (by omega) (by omega) (fun j j0 j1 => ?_)
    by_cases e : j = y
    · subst e; omega
    · exact hr j j0 (by omega)
/-- while the row is shifted: the places behind y are -/
def shf (σ0 σ : Hp) (c y : Int) : Prop := (∀ q : Nat, q ≠ 93 → q ≠ 94 → σ q = σ0 q) ∧ (∀ i : Int, i ≤ y → σ 93 i = σ0 93 i) ∧ (∀ i : Int, y < i → i ≤ c → σ 93 i = σ0 93 (i - 1)) ∧ (∀ j : Int, y ≤ j → j < c → σ 94 (σ0 93 j) = j + 1) ∧ ∀ k : Int, (∀ j : Int, y ≤ j → j < c → σ0 93 j ≠ k) → σ 94 k = σ0 94 k
theorem c_ins69 {σ0 : Hp} {c e : Int} (he : 0 ≤ e) (hc : c ≤ 11) (hr : ∀ i : Int, 0 ≤ i → i < c → 0 ≤ σ0 93 i ∧ σ0 93 i < 12) (hj : ∀ i j : Int, 0 ≤ i → i < c → 0 ≤ j → j < c → σ0 93 i = σ0 93 j → i = j) : ∀ (F : Nat) (y : Int) (σ : Hp), e ≤ y → y ≤ c → y - e < F → shf σ0 σ c y → Okk (f_TO_insert_69 e F y σ) fun r => shf σ0 r.2 c e := by
  intro F
  induction F with
  | zero => intro y σ h1 h2 hF; omega
  | succ F ih =>
    intro y σ h1 h2 hF H
    rw [f_TO_insert_69]
    refine ok_ite (fun h => ok_some (by rw [show e = y by omega]; exact H)) (fun h => ?_)
    obtain ⟨f0, f1, f2, f3, f4⟩ := H
    have ey : σ 93 (y - 1) = σ0 93 (y - 1) := f1 _ (by omega)
    have hb := hr (y - 1) (by omega) (by omega)
    rw [hs_eq, ey]
    refine ok_grd (by (first | omega | (unfold r32; omega) | (unfold r64; omega) | (simp only [r32, r64] at *; omega))) (ok_grd (by omega) (ok_grd (by omega) (ok_grd (by omega) (ok_grd hb (ok_grd (by (first | omega | (unfold r32; omega) | (unfold r64; omega) | (simp only [r32, r64] at *; omega))) ?_)))))
    refine ih (y + (-1)) _ (by omega) (by omega) (by omega) ⟨fun q h1 h2 => ?_, fun i hi => ?_, fun i hi hi2 => ?_, fun j j0 j1 => ?_, fun k hk => ?_⟩
    · rw [hset_ne h2, hset_ne h1]; exact f0 q h1 h2
    · rw [hs_ne (by omega), hs_nj (by omega)]; exact f1 i (by omega)
    · rw [hs_ne (by omega)]
      by_cases e : i = y
      · subst e; rw [hs_eq]
      · rw [hs_nj e]; exact f2 i (by omega) hi2
    · by_cases e : j = y - 1
      · subst e; rw [hs_eq]; omega
      · have hne : σ0 93 j ≠ σ0 93 (y - 1) := fun g => e (hj j (y - 1) (by omega) j1 (by omega) (by omega) g)
        rw [hs_nj hne, hs_ne (by omega)]; exact f3 j (by omega) j1
    · rw [hs_nj (fun g => hk (y - 1) (by omega) (by omega) g.symm), hs_ne (by omega)]
      exact f4 k (fun j j0 j1 => hk j (by omega) j1)
theorem c_insert {σ : Hp} {a a' : Ab} (W : WFA a) (W' : WT a') {p m : Int} (G : grown a a' p m) (hT : ICT σ a) (hd : ∀ k : Int, thr a 0 k → isP a 0 k → f_D_depthOf σ 2 k = some (dep a 0 k)) : Okk (f_TO_insert σ m p 2) fun s => (∀ q : Nat, q ≠ 92 → q ≠ 93 → q ≠ 94 → s q = σ q) ∧ Chn a' (s 93) (s 92 0) ∧ (∀ i : Int, 0 ≤ i → i < s 92 0 → s 94 (s 93 i) = i) ∧ ∀ k : Int, 0 ≤ k → k < 12 → ¬ (thr a' 0 k ∧ isP a' 0 k) → s 94 k = -1 := by
  have hT0 : Chn a (σ 93) (σ 92 0) ∧ ∀ i : Int, 0 ≤ i → i < σ 92 0 → a.place (σ 93 i) = i := hT 0
  have hT1 : ∀ m : Int, 0 ≤ m → m < 12 → σ 94 m = @ite _ (thr a 0 m ∧ isP a 0 m) (Classical.propDecidable _) (a.place m) (-1) := hT 1
  obtain ⟨C, hpl⟩ := hT0
  have c0 : 0 < σ 92 0 ∧ σ 92 0 ≤ 12 := C 0
  have c2 : ∀ i : Int, 0 ≤ i → i < σ 92 0 → thr a 0 (σ 93 i) ∧ isP a 0 (σ 93 i) := C 2
  have c5 : ∀ m : Int, thr a 0 m → isP a 0 m → ∃ i : Int, 0 ≤ i ∧ i < σ 92 0 ∧ σ 93 i = m := C 5
  have c6 : ∀ i j : Int, 0 ≤ i → i < σ 92 0 → 0 ≤ j → j < σ 92 0 → σ 93 i = σ 93 j → i = j := C 6
  have c7 : σ 92 0 ≤ a.many 0 := C 7
  obtain ⟨g1, g2, g3, g4, g5, g6, g7⟩ := id G
  have hw := W'.2.1
  have hb : ∀ i : Int, 0 ≤ i → i < σ 92 0 → 0 ≤ σ 93 i ∧ σ 93 i < 12 := fun i h1 h2 => ⟨(c2 i h1 h2).1.1, by have := (c2 i h1 h2).1.2; omega⟩
  obtain ⟨i0, h0, h1, hp⟩ := c5 p g3 g4
  have hp12 := hb i0 h0 h1
  have e94 : ∀ i : Int, 0 ≤ i → i < σ 92 0 → σ 94 (σ 93 i) = i := fun i j0 j1 => by rw [hT1 _ (hb i j0 j1).1 (hb i j0 j1).2, if_pos (c2 i j0 j1)]; exact hpl i j0 j1
  unfold f_TO_insert
  rw [if_neg (by omega), if_neg (by omega), if_pos (by omega)]
  refine ok_eqb (v := i0) ((e_TO_placeOf σ p).trans (by rw [if_pos (by omega), ← hp, e94 i0 h0 h1])) ?_
  refine ok_grd (by (first | omega | (unfold r32; omega) | (unfold r64; omega) | (simp only [r32, r64] at *; omega))) (ok_call (c_ins29 C hd h0 hp ⟨g3, g4⟩ zFuel (i0 + 1) (by omega) (by omega) (by unfold zFuel; omega) (fun j j0 j1 => by omega)) ?_)
  rintro e ⟨e1, e2, e3, e4⟩
  refine ok_call (c_ins69 (σ0 := σ) (c := σ 92 0) (e := e) (by omega) (by omega) hb c6 zFuel (σ 92 0) σ e2 (by omega) (by unfold zFuel; omega) ⟨fun _ _ _ => rfl, fun _ _ => rfl, fun i h1 h2 => by omega, fun j h1 h2 => by omega, fun _ _ => rfl⟩) ?_
  rintro r ⟨r0, r1, r2, r3, r4⟩
  have e92 : r.2 92 = σ 92 := r0 92 (by omega) (by omega)
  rw [hset_ne (by omega : (92 : Nat) ≠ 94), hset_ne (by omega : (92 : Nat) ≠ 93), e92]
  refine ok_grd (by omega) (ok_grd (by omega) (ok_grd (by (first | omega | (unfold r32; omega) | (unfold r64; omega) | (simp only [r32, r64] at *; omega))) (ok_some ?_)))
  have I : ∀ i : Int, 0 ≤ i → i < σ 92 0 + 1 → (hset (hset (hset r.2 93 e m) 94 m e) 92 0 (σ 92 0 + 1)) 93 i = ins (σ 93) e m i := by
    intro i j0 j1
    rw [hset_ne (by omega : (93 : Nat) ≠ 92), hset_ne (by omega : (93 : Nat) ≠ 94)]
    unfold ins
    by_cases h : i < e
    · rw [if_pos h, hs_nj (by omega)]; exact r1 i (by omega)
    · by_cases h' : i = e
      · subst h'; rw [hs_eq, if_neg (by omega), if_pos rfl]
      · rw [if_neg h, if_neg h', hs_nj h']; exact r2 i (by omega) (by omega)
  have P : ∀ i : Int, 0 ≤ i → i < σ 92 0 → (hset (hset (hset r.2 93 e m) 94 m e) 92 0 (σ 92 0 + 1)) 94 (σ 93 i) = if i < e then i else i + 1 := by
    intro i j0 j1
    have hne : σ 93 i ≠ m := by have := (c2 i j0 j1).1.2; omega
    rw [hset_ne (by omega : (94 : Nat) ≠ 92), hs_nj hne, hset_ne (by omega : (94 : Nat) ≠ 93)]
    by_cases h : i < e
    · rw [if_pos h, r4 _ (fun j k0 k1 g => by have := c6 j i (by omega) k1 j0 j1 g; omega)]; exact e94 i j0 j1
    · rw [if_neg h]; exact r3 i (by omega) j1
  refine ⟨fun q q1 q2 q3 => ?_, ?_, ?_, ?_⟩
  · rw [hset_ne q1, hset_ne q3, hset_ne q2]; exact r0 q q2 q3
  · have e92' : (hset (hset (hset r.2 93 e m) 94 m e) 92 0 (σ 92 0 + 1)) 92 0 = σ 92 0 + 1 := hs_eq
    rw [e92']
    exact Chn_ext I (chn_ins W W' G C h0 hp e1 e2 e3 e4)
  · intro i j0 j1
    have e2 : (hset (hset (hset r.2 93 e m) 94 m e) 92 0 (σ 92 0 + 1)) 92 0 = σ 92 0 + 1 := hs_eq
    rw [e2] at j1
    rw [I i j0 j1]
    unfold ins
    by_cases h : i < e
    · rw [if_pos h, P i j0 (by omega), if_pos h]
    · by_cases h' : i = e
      · rw [if_neg h, if_pos h', hset_ne (by omega : (94 : Nat) ≠ 92), hs_eq, h']
      · rw [if_neg h, if_neg h', P (i - 1) (by omega) (by omega), if_neg (by omega)]; omega
  · intro k k0 k1 hk
    have hkm : k ≠ m := fun g => hk (by rw [g]; exact ⟨⟨by omega, by omega⟩, g5⟩)
    have hno : ¬ (thr a 0 k ∧ isP a 0 k) := fun g => hk ⟨⟨k0, by have := g.1.2; omega⟩, by unfold isP; rw [(g7 k k0 (by have := g.1.2; omega)).1]; exact g.2⟩
    rw [hset_ne (by omega : (94 : Nat) ≠ 92), hs_nj hkm, hset_ne (by omega : (94 : Nat) ≠ 93), r4 k (fun j j0 j1 g => hno (by rw [← g]; exact c2 j (by omega) j1)), hT1 k k0 k1, if_neg hno]
/-! ===== the order of time where no PLAIN member came to it ===== -/
/-- a' has the members of time that a has, and no more PLAIN ones -/
def sTm (a a' : Ab) : Prop := a.many 0 ≤ a'.many 0 ∧ a'.many 0 ≤ 12 ∧ (∀ k : Int, 0 ≤ k → k < a.many 0 → a'.kind (12 * 0 + k) = a.kind (12 * 0 + k) ∧ a'.par k = a.par k) ∧ ∀ k : Int, a.many 0 ≤ k → k < a'.many 0 → ¬ isP a' 0 k
theorem aftF_t {a a' : Ab} (S : sTm a a') (q f : Int) : ∀ k : Nat, (k : Int) ≤ a.many 0 → aftF a' q f k = aftF a q f k
  | 0, _ => rfl
  | k + 1, h => by
    have ih := aftF_t S q f k (by omega)
    have e := S.2.2.1 k (by omega) (by omega)
    unfold aftF
    have e2 : isP a' 0 k = isP a 0 k := by unfold isP; rw [e.1]
    simp only [ih, e.2, e2]
theorem aftF_u {a a' : Ab} (S : sTm a a') (q f : Int) (k : Nat) (hk : a.many 0 ≤ k) : ∀ j : Nat, (k : Int) + j ≤ a'.many 0 → aftF a' q f (k + j) = aftF a' q f k
  | 0, _ => rfl
  | j + 1, h => by
    have ih := aftF_u S q f k hk j (by omega)
    show (if aftF a' q f (k + j) = -1 ∧ f ≤ ((k + j : Nat) : Int) ∧ 0 < ((k + j : Nat) : Int) ∧ isP a' 0 ((k + j : Nat) : Int) ∧ a'.par ((k + j : Nat) : Int) = q then (((k + j : Nat) : Int)) else aftF a' q f (k + j)) = _
    rw [if_neg (fun g => S.2.2.2 ((k + j : Nat) : Int) (by omega) (by omega) g.2.2.2.1), ih]
theorem aft_t {a a' : Ab} (W : WT a) (S : sTm a a') (q f : Int) : aft a' q f = aft a q f := by
  have h1 := W.1
  have h2 := S.1
  unfold aft
  have := aftF_u S q f (a.many 0).toNat (by omega) ((a'.many 0).toNat - (a.many 0).toNat) (by omega)
  rw [show (a.many 0).toNat + ((a'.many 0).toNat - (a.many 0).toNat) = (a'.many 0).toNat by omega] at this
  rw [this, aftF_t S q f _ (by omega)]
theorem clbF_t {a a' : Ab} (W : WT a) (S : sTm a a') : ∀ (F : Nat) (k : Int), thr a 0 k → isP a 0 k → clbF a' F k = clbF a F k := by
  intro F
  induction F with
  | zero => intro k _ _; rfl
  | succ F ih =>
    intro k ht hp
    unfold clbF
    by_cases h : k ≤ 0
    · rw [if_pos h, if_pos h]
    · have hb := par_b W ht hp (by omega)
      have e := (S.2.2.1 k ht.1 ht.2).2
      rw [if_neg h, if_neg h, e, aft_t W S, ih (a.par k) (thr_lt ht hb.1 (by omega)) hb.2.2]
theorem nxt_t {a a' : Ab} (W : WT a) (S : sTm a a') {k : Int} (ht : thr a 0 k) (hp : isP a 0 k) : nxt a' k = nxt a k := by
  unfold nxt clb
  rw [aft_t W S, clbF_t W S _ k ht hp]
theorem Chn_t {a a' : Ab} (W : WT a) (S : sTm a a') {r : Int → Int} {c : Int} (C : Chn a r c) : Chn a' r c := by
  have c0 : 0 < c ∧ c ≤ 12 := C 0
  have c2 : ∀ i : Int, 0 ≤ i → i < c → thr a 0 (r i) ∧ isP a 0 (r i) := C 2
  have c3 : ∀ i : Int, 0 ≤ i → i + 1 < c → nxt a (r i) = r (i + 1) := C 3
  have c4 : nxt a (r (c - 1)) = -1 := C 4
  have c5 : ∀ m : Int, thr a 0 m → isP a 0 m → ∃ i : Int, 0 ≤ i ∧ i < c ∧ r i = m := C 5
  have c7 : c ≤ a.many 0 := C 7
  have s1 := S.1
  intro k
  match k with
  | 0 => exact c0
  | 1 => exact C 1
  | 2 =>
    intro i i0 i1
    have h := c2 i i0 i1
    exact ⟨⟨h.1.1, by have := h.1.2; omega⟩, by unfold isP; rw [(S.2.2.1 _ h.1.1 h.1.2).1]; exact h.2⟩
  | 3 => intro i i0 i1; have h := c2 i i0 (by omega); rw [nxt_t W S h.1 h.2]; exact c3 i i0 i1
  | 4 => have h := c2 (c - 1) (by omega) (by omega); show nxt a' (r (c - 1)) = -1; rw [nxt_t W S h.1 h.2]; exact c4
  | 5 =>
    intro m ht hp
    by_cases h : m < a.many 0
    · exact c5 m ⟨ht.1, h⟩ (by unfold isP; rw [← (S.2.2.1 m ht.1 h).1]; exact hp)
    · exact absurd hp (S.2.2.2 m (by omega) ht.2)
  | 6 => exact C 6
  | 7 => show c ≤ a'.many 0; omega
  | _ + 8 => trivial
/-- places told anew by a row -/
def plF (row old : Int → Int) : Nat → Int → Int
  | 0, j => old j
  | k + 1, j => if j = row k then k else plF row old k j
def plA (a : Ab) (row : Int → Int) (c : Int) : Ab := fun q j => if q = 145 then plF row (a 145) c.toNat j else a q j
theorem plF_in {row old : Int → Int} : ∀ (k : Nat) (i : Int), 0 ≤ i → i < k → (∀ j : Int, i < j → j < k → row i ≠ row j) → plF row old k (row i) = i
  | 0, i, h0, h1, _ => by omega
  | k + 1, i, h0, h1, h => by
    unfold plF
    by_cases e : i = k
    · subst e; rw [if_pos rfl]
    · rw [if_neg (h k (by omega) (by omega))]
      exact plF_in k i h0 (by omega) (fun j j0 j1 => h j j0 (by omega))
theorem plF_out {row old : Int → Int} {j : Int} : ∀ (k : Nat), (∀ i : Int, 0 ≤ i → i < k → row i ≠ j) → plF row old k j = old j
  | 0, _ => rfl
  | k + 1, h => by
    unfold plF
    rw [if_neg (fun e => h k (by omega) (by omega) e.symm)]
    exact plF_out k (fun i i0 i1 => h i i0 (by omega))
theorem plA_p {a : Ab} {row : Int → Int} {c : Int} (C : Chn a row c) : ∀ i : Int, 0 ≤ i → i < c → (plA a row c).place (row i) = i := by
  have c6 : ∀ i j : Int, 0 ≤ i → i < c → 0 ≤ j → j < c → row i = row j → i = j := C 6
  intro i i0 i1
  have e : (plA a row c).place (row i) = plF row (a 145) c.toNat (row i) := by unfold Ab.place plA; exact if_pos rfl
  rw [e]
  exact plF_in _ i i0 (by omega) (fun j j0 j1 g => by have := c6 i j i0 i1 (by omega) (by omega) g; omega)
theorem plA_q {a : Ab} {row : Int → Int} {c : Int} {q : Nat} (h : q ≠ 145) : plA a row c q = a q := by
  funext j
  exact if_neg h

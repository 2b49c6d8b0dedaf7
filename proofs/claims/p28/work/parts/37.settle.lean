/-! ===== parents, depths, what is seen ===== -/
theorem icd_c0 {σ σ' : Hp} {a : Ab} {p : Nat} {d : Int} (h : σ' p = σ p) (H : icd σ a p d 0) : icd σ' a p d 0 := by
  show σ' p 0 = _; rw [h]; exact H
theorem icd_c1 {σ σ' : Hp} {a : Ab} {p : Nat} {d : Int} (h : σ' p = σ p) (H : icd σ a p d 1) : icd σ' a p d 1 := by
  show σ' p 1 = _; rw [h]; exact H
theorem icd_c2 {σ σ' : Hp} {a : Ab} {p : Nat} {d : Int} (h : σ' p = σ p) (h2 : σ' (p + 12) = σ (p + 12)) (H : icd σ a p d 2) : icd σ' a p d 2 := by
  unfold icd at *; rw [h, h2]; exact H
theorem icd_c3 {σ σ' : Hp} {a : Ab} {p : Nat} {d : Int} (h : σ' (p + 5) = σ (p + 5)) (H : icd σ a p d 3) : icd σ' a p d 3 := by
  unfold icd at *; rw [h]; exact H
theorem icd_c4 {σ σ' : Hp} {a : Ab} {p : Nat} {d : Int} (h : σ' (p + 6) = σ (p + 6)) (h2 : σ' (p + 7) = σ (p + 7)) (H : icd σ a p d 4) : icd σ' a p d 4 := by
  unfold icd at *; rw [h, h2]; exact H
theorem icd_c5 {σ σ' : Hp} {a : Ab} {p : Nat} {d : Int} (h : σ' (p + 8) = σ (p + 8)) (H : icd σ a p d 5) : icd σ' a p d 5 := by
  unfold icd at *; rw [h]; exact H
theorem icd_c6 {σ σ' : Hp} {a : Ab} {p : Nat} {d : Int} (h : σ' (p + 9) = σ (p + 9)) (H : icd σ a p d 6) : icd σ' a p d 6 := by
  unfold icd at *; rw [h]; exact H
theorem icd_c7 {σ σ' : Hp} {a : Ab} {p : Nat} {d : Int} (h : σ' (p + 10) = σ (p + 10)) (H : icd σ a p d 7) : icd σ' a p d 7 := by
  unfold icd at *; rw [h]; exact H
theorem icd_c8 {σ σ' : Hp} {a : Ab} {p : Nat} {d : Int} (h : σ' (p + 13) = σ (p + 13)) (H : icd σ a p d 8) : icd σ' a p d 8 := by
  unfold icd at *; rw [h]; exact H
theorem icd_c9 {σ σ' : Hp} {a : Ab} {p : Nat} {d : Int} (h : σ' (p + 14) = σ (p + 14)) (H : icd σ a p d 9) : icd σ' a p d 9 := by
  unfold icd at *; rw [h]; exact H
theorem icd_c10 {σ σ' : Hp} {a : Ab} {p : Nat} {d : Int} (h : σ' (p + 15) = σ (p + 15)) (H : icd σ a p d 10) : icd σ' a p d 10 := by
  unfold icd at *; rw [h]; exact H
theorem icd_c11 {σ σ' : Hp} {a : Ab} {p : Nat} {d : Int} (h : σ' (p + 29) = σ (p + 29)) (H : icd σ a p d 11) : icd σ' a p d 11 := by
  unfold icd at *; rw [h]; exact H
theorem icd_c12 {σ σ' : Hp} {a : Ab} {p : Nat} {d : Int} (hm : a.many 0 ≤ 12) (h : ∀ i : Nat, i < 12 → σ' (p + 17 + i) = σ (p + 17 + i)) (H : icd σ a p d 12) : icd σ' a p d 12 := by
  unfold icd at *
  intro t ht hp
  rw [h t.toNat (by have := ht.1; have := ht.2; omega)]
  exact H t ht hp
theorem icd_c13 {σ σ' : Hp} {a : Ab} {p : Nat} {d : Int} (h1 : σ' (p + 1) = σ (p + 1)) (h2 : σ' (p + 2) = σ (p + 2)) (h3 : σ' (p + 3) = σ (p + 3)) (h4 : σ' (p + 4) = σ (p + 4)) (H : icd σ a p d 13) : icd σ' a p d 13 := by
  unfold icd at *; rw [h1, h2, h3, h4]; exact H
theorem ict_c1 {σ σ' : Hp} {a : Ab} (h : σ' 94 = σ 94) (H : ict σ a 1) : ict σ' a 1 := by
  unfold ict at *; rw [h]; exact H
theorem r_isPlain {σ : Hp} {a : Ab} (W : WFA a) {p : Nat} {d : Int} (hd : inD d) (h0 : icd σ a p d 0) (h3 : icd σ a p d 3) (x : Int) : f_D_isPlain σ p x = some (bI (thr a d x ∧ isP a d x)) := by
  have h0' : σ p 0 = a.many d := h0
  have h3' : ∀ m : Int, thr a d m → σ (p + 5) m = a.kind (12 * d + m) := h3
  have hm := many_b W hd
  rw [e_D_isPlain, h0']
  congr 1
  apply bI_iff
  constructor
  · rintro ⟨g1, g2, g3, g4⟩
    have := h3' x ⟨g1, g2⟩
    exact ⟨⟨g1, g2⟩, by show a.kind _ = 0; omega⟩
  · rintro ⟨⟨g1, g2⟩, g3⟩
    have := h3' x ⟨g1, g2⟩
    exact ⟨g1, g2, by omega, by rw [this]; exact g3⟩
/-- all but the cell at p is as it was -/
def sam (p : Nat) (σ σ' : Hp) : Prop := ∀ q : Nat, q ≠ p → σ' q = σ q
theorem sam_r (p : Nat) (σ : Hp) : sam p σ σ := fun _ _ => rfl
theorem sam_t {p : Nat} {σ σ' σ'' : Hp} (h1 : sam p σ σ') (h2 : sam p σ' σ'') : sam p σ σ'' := fun q hq => (h2 q hq).trans (h1 q hq)
theorem sam_h {p : Nat} {σ : Hp} {i v : Int} : sam p σ (hset σ p i v) := fun _ hq => hset_ne hq
theorem c_weigh2 {a : Ab} (W : WFA a) {p : Nat} {d : Int} (hd : inD d) : ∀ (F : Nat) (i : Int) (σ : Hp), icd σ a p d 0 → icd σ a p d 3 → icd σ a p d 4 → icd σ a p d 13 → ict σ a 1 → p ≤ 62 → 1 ≤ i → i ≤ a.many d → a.many d - i < F → (∀ m : Int, 0 < m → m < i → isP a d m → σ (p + 13) m = now a d m) → Okk (f_D_weigh_2 p F i σ) fun r => sam (p + 13) σ r.2 ∧ r.2 (p + 13) 0 = σ (p + 13) 0 ∧ ∀ m : Int, thr a d m → isP a d m → 0 < m → r.2 (p + 13) m = now a d m := by
  intro F
  induction F with
  | zero => intro i σ h0 h3 h4 h13 hT hp6 hi hi2 hF; omega
  | succ F ih =>
    intro i σ h0 h3 h4 h13 hT hp6 hi hi2 hF hdone
    have h0' : σ p 0 = a.many d := h0
    have hm := many_b W hd
    rw [f_D_weigh_2, h0']
    refine ok_ite (fun hc => ok_some ⟨sam_r _ _, rfl, fun m ht hp h => hdone m h (by have := ht.2; omega) hp⟩) (fun hc => ?_)
    have ht : thr a d i := ⟨by omega, by omega⟩
    refine ok_eqb (r_isPlain W hd h0 h3 i) ?_
    by_cases hp : isP a d i
    · rw [bI_t ⟨ht, hp⟩, if_neg (by omega)]
      have h4' : σ (p + 6) i = a.par (12 * d + i) ∧ σ (p + 7) i = a.sign (12 * d + i) := (show ∀ m : Int, thr a d m → isP a d m → 0 < m → σ (p + 6) m = a.par (12 * d + m) ∧ σ (p + 7) m = a.sign (12 * d + m) from h4) i ht hp (by omega)
      refine ok_bind (ok_grd (by omega) ?_)
      rw [h4'.1]
      refine ok_eqb (c_parentAt W h13 hT (u := 99) (fun t h1 h2 => by have := plc_b W h1 h2; omega)) ?_
      refine ok_grd (by omega) (ok_some (ok_grd (by (first | omega | (unfold r32; omega) | (unfold r64; omega) | (simp only [r32, r64] at *; omega))) ?_))
      rw [bPar_prn]
      have hs : sam (p + 13) σ (hset σ (p + 13) i (prn a d i 99)) := sam_h
      refine ok_mono (ih (i + 1) _ (icd_c0 (hs _ (by omega)) h0) (icd_c3 (hs _ (by omega)) h3) (icd_c4 (hs _ (by omega)) (hs _ (by omega)) h4) (icd_c13 (hs _ (by omega)) (hs _ (by omega)) (hs _ (by omega)) (hs _ (by omega)) h13) (ict_c1 (hs _ (by omega)) hT) hp6 (by omega) (by omega) (by omega) ?_) ?_
      · intro m m0 m1 hpm
        by_cases hmi : m = i
        · subst hmi; exact hs_eq
        · rw [hs_nj hmi]; exact hdone m m0 (by omega) hpm
      · rintro r ⟨r1, r2, r3⟩
        exact ⟨sam_t hs r1, by rw [r2, hs_nj (by omega)], r3⟩
    · rw [bI_f (fun g => hp g.2), if_pos rfl]
      refine ok_bind (ok_some (ok_grd (by (first | omega | (unfold r32; omega) | (unfold r64; omega) | (simp only [r32, r64] at *; omega))) ?_))
      refine ih (i + 1) σ h0 h3 h4 h13 hT hp6 (by omega) (by omega) (by omega) ?_
      intro m m0 m1 hpm
      exact hdone m m0 (by have : m ≠ i := fun e => hp (e ▸ hpm); omega) hpm
theorem c_isBridgeSeen {σ : Hp} {a : Ab} (W : WFA a) {p : Nat} {d : Int} (hd : inD d) (h0 : icd σ a p d 0) (h3 : icd σ a p d 3) (h5 : icd σ a p d 5) {b : Int} (hb : thr a d b) (hp : ¬ isP a d b) (hs : ∀ m : Int, 0 ≤ m → m < b → isP a d m → (σ (p + 15) m = bI (opn a d m))) : ∀ (F : Nat) (i : Int), 0 ≤ i → i ≤ b → b - i < F → (a.kind (12 * d + b) = 1 → ∀ k : Int, 0 ≤ k → k < i → bitP (a.set (12 * d + b)) k → opn a d k) → f_D_isBridgeSeen_2 σ p b F i = some (bI (seeP a d b)) := by
  have h0' : σ p 0 = a.many d := h0
  have h3' : ∀ m : Int, thr a d m → σ (p + 5) m = a.kind (12 * d + m) := h3
  have h5' : ∀ m : Int, thr a d m → a.kind (12 * d + m) = 1 → σ (p + 8) m = a.set (12 * d + m) := h5
  have hm := many_b W hd
  have h4 := (show ∀ d m : Int, inD d → thr a d m → a.kind (12 * d + m) = 1 → 1 ≤ a.set (12 * d + m) ∧ a.set (12 * d + m) ≤ 4095 ∧ ∀ k : Int, 0 ≤ k → k < 12 → bitP (a.set (12 * d + m)) k → k < m ∧ isP a d k from W 4) d b hd hb
  intro F
  induction F with
  | zero => intro i hi hi2 hF; omega
  | succ F ih =>
    intro i hi hi2 hF hdone
    have hb12 : b < 12 := by have := hb.2; omega
    rw [f_D_isBridgeSeen_2]
    apply ok_eq
    refine ok_ite (fun hc => ok_grd (by omega) (ok_some ?_)) (fun hc => ?_)
    · refine (bI_t ⟨fun g => absurd g hp, fun g k k0 k1 hk => ?_⟩).symm
      have := (h4 g).2.2 k k0 k1 hk
      exact hdone g k k0 (by omega) hk
    · have ek := h3' b hb
      refine ok_eqb (e_D_standsFor σ p b i ⟨hb.1, hb12⟩ ⟨hi, by omega⟩ (fun g => by
        have g1 : a.kind (12 * d + b) = 1 := by rw [← ek]; exact g
        rw [h5' b hb g1]
        have := h4 g1
        omega)) ?_
      rw [ek]
      by_cases hk : a.kind (12 * d + b) = 1 ∧ bitP (σ (p + 8) b) i
      · rw [bI_t hk, if_neg (by omega)]
        have e8 := h5' b hb hk.1
        have hbit : bitP (a.set (12 * d + b)) i := by rw [← e8]; exact hk.2
        have hpi := ((h4 hk.1).2.2 i hi (by omega) hbit)
        refine ok_eqb (e_D_isSeen σ p i (by rw [h0']; omega)) ?_
        rw [h0', hs i hi hpi.1 hpi.2]
        by_cases ho : opn a d i
        · rw [bI_t ho, bI_t ⟨hi, by have := hb.2; omega, by omega⟩, if_pos (by omega)]
          refine ok_grd (by (first | omega | (unfold r32; omega) | (unfold r64; omega) | (simp only [r32, r64] at *; omega))) (eq_ok (ih (i + 1) (by omega) (by omega) (by omega) ?_) rfl)
          intro g k k0 k1 hkk
          by_cases hki : k = i
          · subst hki; exact ho
          · exact hdone g k k0 (by omega) hkk
        · rw [bI_f ho, bI_f (fun g => g.2.2 rfl), if_neg (by omega)]
          refine ok_grd (by omega) (ok_some ?_)
          exact (bI_f (fun g => ho (g.2 hk.1 i hi (by omega) hbit))).symm
      · rw [bI_f hk, if_pos rfl]
        refine ok_grd (by (first | omega | (unfold r32; omega) | (unfold r64; omega) | (simp only [r32, r64] at *; omega))) (eq_ok (ih (i + 1) (by omega) (by omega) (by omega) ?_) rfl)
        intro g k k0 k1 hkk
        by_cases hki : k = i
        · subst hki
          exact absurd ⟨g, by rw [h5' b hb g]; exact hkk⟩ hk
        · exact hdone g k k0 (by omega) hkk

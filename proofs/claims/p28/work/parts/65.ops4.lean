/-! ===== measure ===== -/
section
variable {σ : Hp} {a a' : Ab} {n : Nat} {B : Int} {e : Nat}
/-- the reference with a measure more -/
def msA (a : Ab) (k f g : Int) : Ab := hset (hset (hset (hset a 146 a.measures k) 147 a.measures f) 148 a.measures g) 129 23 (a.measures + 1)
section
variable {k f g : Int}
theorem ms_q {q : Nat} (h : q ≠ 129) (h1 : q ≠ 146) (h2 : q ≠ 147) (h3 : q ≠ 148) : frs (msA a k f g) q = a q := by unfold msA; rw [frs_q h, hset_ne h, hset_ne h3, hset_ne h2, hset_ne h1]
theorem ms_j {j : Int} (h : j ≠ 40) (h2 : j ≠ 23) : frs (msA a k f g) 129 j = a 129 j := by unfold msA; rw [frs_j h, hs_nj h2, hset_ne (by omega), hset_ne (by omega), hset_ne (by omega)]
theorem ms_m : (frs (msA a k f g)).measures = a.measures + 1 := by show frs (msA a k f g) 129 23 = _; unfold msA; rw [frs_j (by omega), hs_eq]
theorem ms_k (i : Int) : (frs (msA a k f g)).mk i = if i = a.measures then k else a.mk i := by show frs (msA a k f g) 146 i = _; unfold msA; rw [frs_q (by omega), hset_ne (by omega), hset_ne (by omega), hset_ne (by omega)]; exact hs_if
theorem ms_a (i : Int) : (frs (msA a k f g)).ma i = if i = a.measures then f else a.ma i := by
  show frs (msA a k f g) 147 i = _; unfold msA; rw [frs_q (by omega), hset_ne (by omega), hset_ne (by omega), hs_if]
  by_cases h : i = a.measures
  · rw [if_pos h, if_pos h]
  · rw [if_neg h, if_neg h, hset_ne (by omega)]; rfl
theorem ms_b (i : Int) : (frs (msA a k f g)).mb i = if i = a.measures then g else a.mb i := by
  show frs (msA a k f g) 148 i = _; unfold msA; rw [frs_q (by omega), hset_ne (by omega), hs_if]
  by_cases h : i = a.measures
  · rw [if_pos h, if_pos h]
  · rw [if_neg h, if_neg h, hset_ne (by omega), hset_ne (by omega)]; rfl
theorem ms_nF (W : WFA a) (o : Int) : ∀ (F : Nat) (m : Int), 0 ≤ m → m < a.measures → (ndsF (frs (msA a k f g)) o F m ↔ ndsF a o F m)
  | 0, _, _, _ => Iff.rfl
  | F + 1, m, m0, m1 => by
    have hm := mea W m0 m1
    simp only [ndsF, ms_k, ms_a, ms_b, if_neg (show ¬ m = a.measures by omega)]
    by_cases h : a.mk m = 3
    · have := hm.2.2.2 h
      rw [ms_nF W o F (a.ma m) (by omega) (by omega), ms_nF W o F (a.mb m) (by omega) (by omega)]
    · simp only [h, false_and]
end
theorem e_MS_add (H : ICM σ a) (W : WFA a) {k f g : Int} (hm : a.measures < 4) (hk : k = 3 → (0 ≤ f ∧ f < a.measures) ∧ (0 ≤ g ∧ g < a.measures)) : Okk (f_MS_add σ k f g) fun r => r.1 = a.measures ∧ (∀ q : Nat, q < 95 ∨ 99 < q → r.2 q = σ q) ∧ r.2 95 0 = a.measures + 1 ∧ (∀ i : Int, r.2 96 i = if i = a.measures then k else σ 96 i) ∧ (∀ i : Int, i ≠ a.measures → r.2 97 i = σ 97 i ∧ r.2 98 i = σ 98 i ∧ r.2 99 i = σ 99 i) ∧ (k = 3 → r.2 97 a.measures = f ∧ r.2 98 a.measures = g ∧ r.2 99 a.measures = ior (ishl 1 a.measures) (ior (σ 99 f) (σ 99 g))) ∧ (k ≠ 3 → r.2 99 a.measures = ishl 1 a.measures) := by
  have h0 : σ 95 0 = a.measures := H 0
  have h10 : 0 ≤ a.measures ∧ a.measures ≤ 4 ∧ _ := W 10
  unfold f_MS_add
  rw [h0, if_pos hm]
  have e1 : (hset σ 96 a.measures k) 95 0 = a.measures := by rw [hset_ne (by omega)]; exact h0
  rw [e1]
  generalize hs : hset (hset σ 96 a.measures k) 99 a.measures (ishl 1 a.measures) = s
  have s95 : s 95 0 = a.measures := by subst hs; rw [hset_ne (by omega)]; exact e1
  refine ok_grd (by omega) (ok_grd (by omega) (ok_call (P := fun t => (∀ q : Nat, q < 96 ∨ 99 < q → t q = σ q) ∧ (∀ i : Int, t 96 i = if i = a.measures then k else σ 96 i) ∧ (∀ i : Int, i ≠ a.measures → t 97 i = σ 97 i ∧ t 98 i = σ 98 i ∧ t 99 i = σ 99 i) ∧ (k = 3 → t 97 a.measures = f ∧ t 98 a.measures = g ∧ t 99 a.measures = ior (ishl 1 a.measures) (ior (σ 99 f) (σ 99 g))) ∧ (k ≠ 3 → t 99 a.measures = ishl 1 a.measures)) ?_ ?_))
  · by_cases h3 : k = 3
    · obtain ⟨hf, hg⟩ := hk h3
      have h95 : ∀ x : Int, 0 ≤ x → x < a.measures → f_MS_has s x = some 1 := fun x x0 x1 => by
        rw [e_MS_has, s95, bI_t ⟨x0, x1, by omega⟩]
      rw [if_neg (fun q => q h3)]
      refine ok_eqb (h95 f hf.1 hf.2) ?_
      rw [if_neg (by omega)]
      refine ok_eqb (h95 g hg.1 hg.2) ?_
      rw [if_neg (by omega), s95]
      have t1 : (hset s 97 a.measures f) 95 0 = a.measures := by rw [hset_ne (by omega)]; exact s95
      rw [t1]
      generalize ht : hset (hset s 97 a.measures f) 98 a.measures g = t
      have t95 : t 95 0 = a.measures := by subst ht; rw [hset_ne (by omega)]; exact t1
      have t99 : t 99 = s 99 := by subst ht; rw [hset_ne (by omega), hset_ne (by omega)]
      rw [t95, t99]
      have f1 : s 99 f = σ 99 f := by subst hs; rw [hs_nj (by omega), hset_ne (by omega)]
      have g1 : s 99 g = σ 99 g := by subst hs; rw [hs_nj (by omega), hset_ne (by omega)]
      have m1 : s 99 a.measures = ishl 1 a.measures := by subst hs; exact hs_eq
      rw [f1, g1, m1]
      refine ok_grd (by omega) (ok_grd (by omega) (ok_grd (by omega) (ok_grd (by omega) (ok_grd (by omega) (ok_grd (by omega) (ok_some ⟨fun q hq => ?_, fun i => ?_, fun i hi => ⟨?_, ?_, ?_⟩, fun _ => ⟨?_, ?_, ?_⟩, fun q => absurd h3 q⟩))))))
      · subst ht; subst hs; (repeat (first | rw [hset_ne (by omega)] | rw [hs_nj (by omega)] | rw [hs_eq]))
      · subst ht; subst hs; rw [hset_ne (by omega), hset_ne (by omega), hset_ne (by omega), hset_ne (by omega)]; exact hs_if
      · subst ht; subst hs; rw [hset_ne (by omega), hset_ne (by omega), hs_nj hi, hset_ne (by omega), hset_ne (by omega)]
      · subst ht; subst hs; rw [hset_ne (by omega), hs_nj hi, hset_ne (by omega), hset_ne (by omega), hset_ne (by omega)]
      · rw [hs_nj hi, t99]; subst hs; rw [hs_nj hi, hset_ne (by omega)]
      · subst ht; rw [hset_ne (by omega), hset_ne (by omega)]; exact hs_eq
      · subst ht; rw [hset_ne (by omega)]; exact hs_eq
      · exact hs_eq
    · rw [if_pos h3]
      refine ok_some ⟨fun q hq => ?_, fun i => ?_, fun i hi => ⟨?_, ?_, ?_⟩, fun q => absurd q h3, fun _ => ?_⟩
      · subst hs; rw [hset_ne (by omega), hset_ne (by omega)]
      · subst hs; rw [hset_ne (by omega)]; exact hs_if
      · subst hs; rw [hset_ne (by omega), hset_ne (by omega)]
      · subst hs; rw [hset_ne (by omega), hset_ne (by omega)]
      · subst hs; rw [hs_nj hi, hset_ne (by omega)]
      · subst hs; exact hs_eq
  · rintro t ⟨t1, t2, t3, t4, t5⟩
    have t95 : t 95 0 = a.measures := by rw [t1 95 (by omega)]; exact h0
    rw [t95]
    have u : (hset t 95 0 (a.measures + 1)) 95 0 = a.measures + 1 := hs_eq
    have U : ∀ q : Nat, q ≠ 95 → (hset t 95 0 (a.measures + 1)) q = t q := fun q hq => hset_ne hq
    rw [u]
    refine ok_grd (by (first | omega | (unfold r32; omega) | (unfold r64; omega) | (simp only [r32, r64] at *; omega))) (ok_grd (by (first | omega | (unfold r32; omega) | (unfold r64; omega) | (simp only [r32, r64] at *; omega))) (ok_some ⟨by dsimp only; omega, fun q hq => ?_, u, ?_, ?_, ?_, ?_⟩))
    · dsimp only; rw [U q (by omega), t1 q (by omega)]
    · dsimp only; rw [U 96 (by omega)]; exact t2
    · dsimp only; rw [U 97 (by omega), U 98 (by omega), U 99 (by omega)]; exact t3
    · dsimp only; rw [U 97 (by omega), U 98 (by omega), U 99 (by omega)]; exact t4
    · dsimp only; rw [U 99 (by omega)]; exact t5
end

theorem ict_c0 {σ σ' : Hp} {a : Ab} (h : σ' 92 = σ 92) (h2 : σ' 93 = σ 93) (H : ict σ a 0) : ict σ' a 0 := by
  unfold ict at *; rw [h, h2]; exact H
theorem c_weigh53 {a : Ab} (W : WFA a) {p : Nat} {d : Int} (hd : inD d) (hp6 : p ≤ 62) : ∀ (F : Nat) (i : Int) (σ : Hp), pre σ a p d → ict σ a 0 → 0 ≤ i → i ≤ σ 92 0 → σ 92 0 - i < F → (∀ j : Int, 0 ≤ j → j < i → rowOk σ a p d (σ 93 j) j (a.many d) 0) → Okk (f_D_weigh_53 p F i σ) fun s => (∀ q : Nat, ¬ (p + 17 ≤ q ∧ q ≤ p + 28) → s.2 q = σ q) ∧ ∀ j : Int, 0 ≤ j → j < σ 92 0 → rowOk s.2 a p d (σ 93 j) j (a.many d) 0 := by
  have hmb := many_b W (Or.inl rfl : inD 0)
  intro F
  induction F with
  | zero => intro i σ H hT o0 o1 hF; omega
  | succ F ih =>
    intro i σ H hT i0 i1 hF hok
    have hC : Chn a (σ 93) (σ 92 0) ∧ ∀ i : Int, 0 ≤ i → i < σ 92 0 → a.place (σ 93 i) = i := hT
    have c0 : 0 < σ 92 0 ∧ σ 92 0 ≤ 12 := hC.1 0
    have c2 : ∀ i : Int, 0 ≤ i → i < σ 92 0 → thr a 0 (σ 93 i) ∧ isP a 0 (σ 93 i) := hC.1 2
    have c6 : ∀ i j : Int, 0 ≤ i → i < σ 92 0 → 0 ≤ j → j < σ 92 0 → σ 93 i = σ 93 j → i = j := hC.1 6
    rw [f_D_weigh_53]
    refine ok_ite (fun hc => ok_some ⟨fun _ _ => rfl, fun j j0 j1 => hok j j0 (by omega)⟩) (fun hc => ok_grd (by omega) ?_)
    have hr := (c2 i i0 (by omega)).1
    have hr0 := hr.1
    have hr1 := hr.2
    refine ok_call (c_weighRow W hd hp6 (r := σ 93 i) (pl := i) (u := i) ⟨hr0, by omega⟩ (fun t _ _ => Iff.rfl) H) ?_
    rintro s ⟨s1, s2⟩
    have hs : ∀ q : Nat, ¬ (p + 17 ≤ q ∧ q ≤ p + 28) → s q = σ q := fun q hq => s1 q (by omega)
    refine ok_grd (by (first | omega | (unfold r32; omega) | (unfold r64; omega) | (simp only [r32, r64] at *; omega))) ?_
    have e92 : s 92 = σ 92 := hs _ (by omega)
    have e93 : s 93 = σ 93 := hs _ (by omega)
    refine ok_mono (ih (i + 1) s (pre_w (fun q hq => hs q (by omega)) hp6 H) (ict_c0 e92 e93 hT) (by omega) (by rw [e92]; omega) (by rw [e92]; omega) ?_) ?_
    · intro j j0 j1
      rw [e93]
      by_cases e : j = i
      · subst e; exact s2
      · have hj := c2 j j0 (by omega)
        have hne : σ 93 j ≠ σ 93 i := fun g => e (c6 j i j0 (by omega) i0 (by omega) g)
        have hj0 := hj.1.1
        intro m k hm hpm hk h
        rw [s1 _ (by omega)]
        exact hok j j0 (by omega) m k hm hpm hk h
    · rintro t ⟨t1, t2⟩
      rw [e92, e93] at t2
      exact ⟨fun q hq => (t1 q hq).trans (hs q hq), t2⟩
/-- D.weigh: from what was told, all that follows -/
theorem c_weigh {a : Ab} (W : WFA a) {p : Nat} {d : Int} (hd : inD d) (hp6 : p ≤ 62) {σ : Hp} (H : pre σ a p d) (h7 : icd σ a p d 7) (hT : ict σ a 0) (hz : σ (p + 13) 0 = -1 ∧ σ (p + 14) 0 = 0 ∧ σ (p + 15) 0 = 1) : Okk (f_D_weigh σ p) fun s => (∀ q : Nat, ¬ (p + 13 ≤ q ∧ q ≤ p + 29) → s q = σ q) ∧ icd s a p d 8 ∧ icd s a p d 9 ∧ icd s a p d 10 ∧ icd s a p d 11 ∧ icd s a p d 12 ∧ s (p + 13) 0 = -1 := by
  have hmb := many_b W hd
  have hmb0 := many_b W (Or.inl rfl : inD 0)
  unfold f_D_weigh
  refine ok_call (c_weigh2 W hd zFuel 1 σ H.1 H.2.1 H.2.2.1 H.2.2.2.2.1 H.2.2.2.2.2 hp6 (by omega) (by omega) (by unfold zFuel; omega) (fun m m0 m1 => by omega)) ?_
  rintro s ⟨s1, s2, s3⟩
  have H8 : icd s.2 a p d 8 := by
    intro m hm hpm
    by_cases h : m = 0
    · rw [if_pos h, h, s2, hz.1]
    · rw [if_neg h]; exact s3 m hm hpm (by have := hm.1; omega)
  refine ok_call (c_settle W hd (icd_c0 (s1 _ (by omega)) H.1) (icd_c3 (s1 _ (by omega)) H.2.1) (icd_c5 (s1 _ (by omega)) H.2.2.2.1) (icd_c7 (s1 _ (by omega)) h7) H8 hp6 ⟨by rw [s1 _ (by omega)]; exact hz.2.1, by rw [s1 _ (by omega)]; exact hz.2.2⟩) ?_
  rintro t ⟨t1, t2, t3⟩
  have ht : ∀ q : Nat, ¬ (p + 13 ≤ q ∧ q ≤ p + 15) → t q = σ q := fun q hq => (t1 q (by omega) (by omega)).trans (s1 q (by omega))
  have H1 : pre t a p d := ⟨icd_c0 (ht _ (by omega)) H.1, icd_c3 (ht _ (by omega)) H.2.1, icd_c4 (ht _ (by omega)) (ht _ (by omega)) H.2.2.1, icd_c5 (ht _ (by omega)) H.2.2.2.1, icd_c13 (ht _ (by omega)) (ht _ (by omega)) (ht _ (by omega)) (ht _ (by omega)) H.2.2.2.2.1, ict_c1 (ht _ (by omega)) H.2.2.2.2.2⟩
  have hT1 : ict t a 0 := ict_c0 (ht _ (by omega)) (ht _ (by omega)) hT
  have hC : Chn a (t 93) (t 92 0) ∧ ∀ i : Int, 0 ≤ i → i < t 92 0 → a.place (t 93 i) = i := hT1
  have c0 : 0 < t 92 0 ∧ t 92 0 ≤ 12 := hC.1 0
  have c5 : ∀ m : Int, thr a 0 m → isP a 0 m → ∃ i : Int, 0 ≤ i ∧ i < t 92 0 ∧ t 93 i = m := hC.1 5
  refine ok_call (c_weigh53 W hd hp6 zFuel 0 t H1 hT1 (by omega) (by omega) (by unfold zFuel; omega) (fun j j0 j1 => by omega)) ?_
  rintro v ⟨v1, v2⟩
  have H2 : pre v.2 a p d := pre_w (fun q hq => v1 q (by omega)) hp6 H1
  refine ok_call (c_weighRow W hd hp6 (r := 12) (pl := 12) (u := 99) (by omega) (fun t h1 h2 => by have := plc_b W h1 h2; omega) H2) ?_
  rintro w ⟨w1, w2⟩
  have e12 : p + 17 + (12 : Int).toNat = p + 29 := rfl
  rw [e12] at w1
  refine ok_some ⟨fun q hq => ?_, ?_, ?_, ?_, ?_, ?_, ?_⟩
  · rw [w1 q (by omega), v1 q (by omega), ht q (by omega)]
  · exact icd_c8 (by rw [w1 _ (by omega), v1 _ (by omega), t1 _ (by omega) (by omega)]) H8
  · exact icd_c9 (by rw [w1 _ (by omega), v1 _ (by omega)]) t2
  · exact icd_c10 (by rw [w1 _ (by omega), v1 _ (by omega)]) t3
  · intro m o hm ho hpm _
    exact w2 m o hm hpm ho (Or.inl hm.2)
  · intro q hq hpq m o hm ho hpm _
    obtain ⟨i, i0, i1, rfl⟩ := c5 q hq hpq
    have hq0 := hq.1
    have hq1 := hq.2
    rw [w1 _ (by omega), hC.2 i i0 i1]
    exact v2 i i0 i1 m o hm hpm ho (Or.inl hm.2)
  · rw [w1 _ (by omega), v1 _ (by omega), t1 _ (by omega) (by omega), s2, hz.1]

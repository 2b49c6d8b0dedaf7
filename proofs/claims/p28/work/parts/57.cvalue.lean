/-! ===== the class's values ===== -/
def rch (D : Int) (σ σ' : Hp) : Prop := (∀ q : Nat, q < 116 ∨ 124 ≤ q → σ' q = σ q) ∧ (∀ j : Int, j ≠ 9 → σ' 116 j = σ 116 j) ∧ ∀ j : Int, j < D → σ' 119 j = σ 119 j
theorem rch_r (D : Int) (σ : Hp) : rch D σ σ := ⟨fun _ _ => rfl, fun _ _ => rfl, fun _ _ => rfl⟩
theorem rch_t {D E : Int} {σ σ' σ'' : Hp} (h1 : rch D σ σ') (h2 : rch E σ' σ'') (h : D ≤ E) : rch D σ σ'' := ⟨fun q hq => (h2.1 q hq).trans (h1.1 q hq), fun j hj => (h2.2.1 j hj).trans (h1.2.1 j hj), fun j hj => (h2.2.2 j (by omega)).trans (h1.2.2 j hj)⟩
/-- the formulas of the calculated members -/
def fok (σ : Hp) (a : Ab) (n : Nat) : Prop := ∀ d m : Int, inD d → thr a d m → a.kind (12 * d + m) = 2 → fPt n (σ (dP d + 11) m) ∧ fHd σ a (σ (dP d + 11) m).toNat (12 * d + m)
theorem fok_f {σ σ' : Hp} {a : Ab} {n : Nat} (h : ∀ q : Nat, q < 116 ∨ 124 ≤ q → σ' q = σ q) (H : fok σ a n) : fok σ' a n := by
  intro d m hd ht hk
  have hp := dP_b hd
  have g := H d m hd ht hk
  rw [h (dP d + 11) (by omega)]
  refine ⟨g.1, ?_⟩
  have hP : 124 ≤ (σ (dP d + 11) m).toNat := by
    rcases g.1 with e | e
    · rw [e]; decide
    · omega
  unfold fHd
  rw [h _ (Or.inr hP), h _ (Or.inr (by omega)), h _ (Or.inr (by omega)), h _ (Or.inr (by omega))]
  exact g.2
def RM (σ : Hp) (a : Ab) (m : Int) : Prop := σ 116 3 = m ∧ (∀ c : Int, 0 ≤ c → c < 1728 → σ 117 c ≤ σ 116 4) ∧ ∀ t x y : Int, cin a t x y → σ 117 (clq t x y) = σ 116 4 → σ 118 (clq t x y) = val a m t x y
def RS (σ : Hp) (a : Ab) (m : Int) (n : Nat) : Prop := ICR σ a ∧ fok σ a n ∧ RM σ a m
theorem RS_c {σ σ' : Hp} {a : Ab} {m : Int} {n : Nat} (W : WFA a) (h : ∀ q : Nat, q < 116 ∨ 124 ≤ q → σ' q = σ q) (h2 : ∀ j : Int, j ≠ 9 → σ' 116 j = σ 116 j) (h3 : σ' 117 = σ 117) (h4 : σ' 118 = σ 118) (H : RS σ a m n) : RS σ' a m n := by
  refine ⟨ICR_f W (fun q hq => h q (by omega)) H.1, fok_f h H.2.1, ?_⟩
  unfold RM
  rw [h2 3 (by omega), h2 4 (by omega), h3, h4]
  exact H.2.2
theorem r_withMember (σ : Hp) {a : Ab} (W : WFA a) {t x y d z : Int} (h : cin a t x y) (hd : inD d) (hz : 0 ≤ z ∧ z < 12) : f_C_withMember σ (clq t x y) d z = some (clq (withD d z t x y).1 (withD d z t x y).2.1 (withD d z t x y).2.2) := by
  have hb := clq_b W h
  have hm := clq_m W h
  rw [e_C_withMember σ _ _ _ hb hz]
  congr 1
  unfold withD clq
  unfold clq at hm
  rcases hd with rfl | rfl | rfl
  · rw [hm.1]; simp only [if_pos, show ((0 : Int) = 1) = False by simp, show ((0 : Int) = 2) = False by simp, if_false]; omega
  · rw [hm.2.1]; simp only [if_pos, show ((1 : Int) = 0) = False by simp, show ((1 : Int) = 2) = False by simp, if_false]; omega
  · rw [hm.2.2]; simp only [if_pos, show ((2 : Int) = 0) = False by simp, show ((2 : Int) = 1) = False by simp, if_false]; omega
section
variable {a : Ab} {m : Int}
theorem c_meansNothing_2 (W : WFA a) {σ : Hp} (H : ICR σ a) (m0 : 0 ≤ m) (m1 : m < a.measures) (hs : σ 116 3 = m) {t x y : Int} (h : cin a t x y) : ∀ (F : Nat) (i : Int), 0 ≤ i → i ≤ 3 → 3 - i < F → (∀ d : Int, 0 ≤ d → d < i → ¬ (isP a d (crd d t x y) ∧ dep a d (crd d t x y) < a.md (3 * m + d))) → f_R_meansNothing_2 σ (clq t x y) F i = some (bI (nth a m t x y)) := by
  intro F
  induction F with
  | zero => intro i i0 i1 hF; omega
  | succ F ih =>
    intro i i0 i1 hF hno
    have N : ∀ d : Int, inD d → (isP a d (crd d t x y) ∧ dep a d (crd d t x y) < a.md (3 * m + d)) → nth a m t x y := by
      intro d hd g
      rcases hd with rfl | rfl | rfl
      · have e : (3 : Int) * m + 0 = 3 * m := by omega
        rw [e] at g
        exact Or.inl g
      · exact Or.inr (Or.inl g)
      · exact Or.inr (Or.inr g)
    rw [f_R_meansNothing_2]
    apply ok_eq
    refine ok_ite (fun g => ok_grd (by omega) (ok_some (bI_f (fun q => ?_)).symm)) (fun g => ?_)
    · rcases q with q | q | q
      · exact hno 0 (by omega) (by omega) (by rw [show (3 : Int) * m + 0 = 3 * m by omega]; exact q)
      · exact hno 1 (by omega) (by omega) q
      · exact hno 2 (by omega) (by omega) q
    · have hd : inD i := inD_of (by omega)
      have hc := crd_t hd h
      refine ok_eqb (r_dim σ) (ok_eqb (r_mOfd σ W h hd) (ok_eqb (r_isPlain W hd (icr_d H hd 0) (icr_d H hd 3) _) ?_))
      have nx : ¬ (isP a i (crd i t x y) ∧ dep a i (crd i t x y) < a.md (3 * m + i)) → Okk (grd (r32 (i + 1)) <| f_R_meansNothing_2 σ (clq t x y) F (i + 1)) fun r => r = bI (nth a m t x y) := by
        intro hn
        refine ok_grd (by (first | omega | (unfold r32; omega) | (unfold r64; omega) | (simp only [r32, r64] at *; omega))) (eq_ok (ih (i + 1) (by omega) (by omega) (by omega) (fun d d0 d1 => ?_)) rfl)
        by_cases e : d = i
        · rw [e]; exact hn
        · exact hno d d0 (by omega)
      by_cases hp : isP a i (crd i t x y)
      · rw [bI_t ⟨hc, hp⟩, if_neg (by omega), hs]
        refine ok_eqb (r_depthOf W hd (icr_d H hd) hc hp) (ok_eqb (r_MS_leastDepth W H.2.2.2.2.2.1 m0 m1 hd) (ok_ite (fun g2 => nx (fun q => by omega)) (fun g2 => ok_grd (by omega) (ok_some (bI_t (N i hd ⟨hp, by omega⟩)).symm))))
      · rw [bI_f (fun q => hp q.2), if_pos rfl]
        exact nx (fun q => hp q.1)
def pch (σ σ' : Hp) : Prop := (∀ q : Nat, q ≠ 116 → q ≠ 120 → q ≠ 121 → q ≠ 122 → q ≠ 123 → σ' q = σ q) ∧ ∀ j : Int, j ≠ 9 → σ' 116 j = σ 116 j
theorem c_plainValue_14 (W : WFA a) (m0 : 0 ≤ m) (m1 : m < a.measures) {t x y : Int} (h : cin a t x y) (hl : lead a t x y = -1) {σ0 : Hp} (hs : σ0 116 3 = m) : ∀ (F : Nat) (i : Int) (σ : Hp), 0 ≤ i → i ≤ m + 1 → m + 1 - i < F → ICR σ a → pch σ0 σ → (∀ j : Int, 0 ≤ j → j < i → nds a m j → σ 120 j = who a j t x y) → Okk (f_R_plainValue_14 (clq t x y) F i σ) fun r => ICR r.2 a ∧ pch σ0 r.2 ∧ r.2 120 m = who a m t x y := by
  intro F
  induction F with
  | zero => intro i σ i0 i1 hF; omega
  | succ F ih =>
    intro i σ i0 i1 hF H hp hb
    have m4 := (mea W m0 m1).1
    have e3 : σ 116 3 = m := by rw [hp.2 3 (by omega)]; exact hs
    rw [f_R_plainValue_14, e3]
    refine ok_ite (fun g => ok_some ⟨H, hp, hb m m0 (by omega) ((nds_s W m0 m1).mpr (Or.inl rfl))⟩) (fun g => ?_)
    rw [if_neg (by omega)]
    refine ok_eqb (r_MS_needs W H.2.2.2.2.2.1 m0 m1 i0 (by omega)) ?_
    refine ok_call (P := fun s => ICR s a ∧ pch σ0 s ∧ ∀ j : Int, 0 ≤ j → j < i + 1 → nds a m j → s 120 j = who a j t x y) ?_ ?_
    · by_cases hn : nds a m i
      · rw [bI_t hn, if_neg (by omega)]
        refine ok_call (c_gather W (m := i) h hl H) ?_
        rintro s ⟨s1, s2⟩
        have e120 : s 120 = σ 120 := s1.1 120 (by omega) (by omega) (by omega) (by omega)
        refine ok_eqb (c_ofGathered W (ICR_g W s1 H) h i0 (by omega) s2 (fun h3 => ?_)) (ok_grd (by omega) (ok_some ?_))
        · have hab := (mea W i0 (by omega)).2.2.2 h3
          have ht := nds_t W i0 (by omega) h3 4 m m0 m1 (by omega) hn
          rw [e120]
          exact ⟨hb _ (by omega) (by omega) ht.1, hb _ (by omega) (by omega) ht.2⟩
        · refine ⟨ICR_f W (fun q hq => ?_) H, ⟨fun q q1 q2 q3 q4 q5 => ?_, fun j hj => ?_⟩, fun j j0 j1 hj => ?_⟩
          · rw [hset_ne (by omega), s1.1 q (by omega) (by omega) (by omega) (by omega)]
          · rw [hset_ne q2, s1.1 q q1 q3 q4 q5, hp.1 q q1 q2 q3 q4 q5]
          · rw [hset_ne (by omega), s1.2 j hj, hp.2 j hj]
          · by_cases e : j = i
            · rw [e]; exact hs_eq
            · rw [hs_nj e, e120]; exact hb j j0 (by omega) hj
      · rw [bI_f hn, if_pos rfl]
        refine ok_some ⟨H, hp, fun j j0 j1 hj => ?_⟩
        by_cases e : j = i
        · rw [e] at hj; exact absurd hj hn
        · exact hb j j0 (by omega) hj
    · rintro s ⟨s1, s2, s3⟩
      exact ok_grd (by (first | omega | (unfold r32; omega) | (unfold r64; omega) | (simp only [r32, r64] at *; omega))) (ih (i + 1) s (by omega) (by omega) (by omega) s1 s2 s3)
theorem c_plainValue (W : WFA a) (m0 : 0 ≤ m) (m1 : m < a.measures) {t x y : Int} (h : cin a t x y) (hl : lead a t x y = -1) {σ : Hp} (hs : σ 116 3 = m) (H : ICR σ a) : Okk (f_R_plainValue σ (clq t x y)) fun r => r.1 = val a m t x y ∧ pch σ r.2 := by
  have m4 := (mea W m0 m1).1
  have hn := c_meansNothing_2 W H m0 m1 hs h zFuel 0 (by omega) (by omega) (by unfold zFuel; omega) (fun d d0 d1 => by omega)
  unfold f_R_plainValue
  rw [val_p hl]
  refine ok_eqb (v := bI (nth a m t x y)) hn ?_
  by_cases g : nth a m t x y
  · rw [bI_t g, if_neg (by omega), if_pos g]
    exact ok_some ⟨rfl, fun _ _ _ _ _ _ => rfl, fun _ _ => rfl⟩
  · rw [bI_f g, if_pos rfl, if_neg g]
    refine ok_call (c_plainValue_14 W m0 m1 h hl hs zFuel 0 σ (by omega) (by omega) (by unfold zFuel; omega) H ⟨fun _ _ _ _ _ _ => rfl, fun _ _ => rfl⟩ (fun j j0 j1 => by omega)) ?_
    rintro r ⟨r1, r2, r3⟩
    have e3 : r.2 116 3 = m := by rw [r2.2 3 (by omega)]; exact hs
    rw [e3]
    refine ok_eqb (r_MS_has W r1.2.2.2.2.2.1 m) ?_
    rw [bI_t ⟨m0, m1⟩, if_neg (by omega)]
    exact ok_bind (ok_grd (by omega) (ok_some (ok_some ⟨r3, r2⟩)))
theorem prvF_max (a : Ab) (t b : Int) : ∀ (k : Nat) (i : Int), 0 ≤ i → i < k → isP a 0 i → dep a 0 i = dep a 0 t → a.place i < a.place b → 0 ≤ prvF a t b k ∧ a.place i ≤ a.place (prvF a t b k)
  | 0, i, h0, h1, _, _, _ => by omega
  | k + 1, i, h0, h1, h2, h3, h4 => by
    unfold prvF
    by_cases h : isP a 0 k ∧ dep a 0 k = dep a 0 t ∧ a.place k < a.place b ∧ (prvF a t b k < 0 ∨ a.place (prvF a t b k) < a.place k)
    · rw [if_pos h]
      refine ⟨by omega, ?_⟩
      by_cases e : i = k
      · rw [e]; exact Int.le_refl _
      · have := prvF_max a t b k i h0 (by omega) h2 h3 h4
        omega
    · rw [if_neg h]
      by_cases e : i = k
      · subst e
        have : ¬ (prvF a t b k < 0 ∨ a.place (prvF a t b k) < a.place k) := fun g => h ⟨h2, h3, h4, g⟩
        omega
      · exact prvF_max a t b k i h0 (by omega) h2 h3 h4
theorem bckF_neg (a : Ab) (t : Int) {b : Int} (h : b < 0) : ∀ s : Nat, bckF a t s b = b
  | 0 => rfl
  | s + 1 => if_pos h
theorem bckF_m (W : WFA a) (t : Int) : ∀ (s : Nat) (b : Int), (b = -1 ∨ 0 ≤ b) → (bckF a t s b = -1 ∨ 0 ≤ bckF a t s b)
  | 0, b, h => h
  | s + 1, b, h => by
    unfold bckF
    by_cases e : b < 0
    · rw [if_pos e]; exact h
    · rw [if_neg e]
      refine bckF_m W t s _ ?_
      rcases prv_b W t b with g | g
      · exact Or.inl g
      · exact Or.inr g.1.1
theorem c_ahead_12 (W : WFA a) {σ : Hp} (H : ICR σ a) {t : Int} (ht : thr a 0 t) (hp : isP a 0 t) : ∀ (F s : Nat) (i pb : Int), i + 1 < F → -1 ≤ i → i < pb → pb < σ 92 0 → (s : Int) < 100 → (∀ j : Int, i < j → j < pb → dep a 0 (σ 93 j) ≠ dep a 0 t) → f_TO_ahead_12 σ t 2 F ((s + 1 : Nat) : Int) i = some (bckF a t (s + 1) (σ 93 pb)) := by
  have hT : Chn a (σ 93) (σ 92 0) ∧ ∀ i : Int, 0 ≤ i → i < σ 92 0 → a.place (σ 93 i) = i := H.2.2.2.1 0
  have c0 : 0 < σ 92 0 ∧ σ 92 0 ≤ 12 := hT.1 0
  have c2 : ∀ i : Int, 0 ≤ i → i < σ 92 0 → thr a 0 (σ 93 i) ∧ isP a 0 (σ 93 i) := hT.1 2
  have c5 : ∀ m : Int, thr a 0 m → isP a 0 m → ∃ i : Int, 0 ≤ i ∧ i < σ 92 0 ∧ σ 93 i = m := hT.1 5
  have hm0 := many_b W iD0
  intro F
  induction F with
  | zero =>
    intro s i pb hF hi hpb hpc hs hno
    omega
  | succ F ih =>
    intro s i pb hF hi hpb hpc hs hno
    have hb := c2 pb (by omega) hpc
    have eb : bckF a t (s + 1) (σ 93 pb) = bckF a t s (prv a t (σ 93 pb)) := by
      show (if σ 93 pb < 0 then σ 93 pb else bckF a t s (prv a t (σ 93 pb))) = _
      rw [if_neg (by have := hb.1.1; omega)]
    rw [f_TO_ahead_12]
    apply ok_eq
    refine ok_ite (fun g => ok_some ?_) (fun g => ?_)
    · rw [eb]
      have : prv a t (σ 93 pb) = -1 := by
        rcases prv_b W t (σ 93 pb) with q | q
        · exact q
        · exfalso
          obtain ⟨j, j0, j1, ej⟩ := c5 _ q.1 q.2.1
          have h3 := q.2.2.2
          rw [← ej, hT.2 j j0 j1, hT.2 pb (by omega) hpc] at h3
          exact hno j (by omega) h3 (by rw [ej]; exact q.2.2.1)
      rw [this, bckF_neg a t (by omega) s]
    · rw [if_neg (by omega)]
      have hk := c2 i (by omega) (by omega)
      refine ok_grd (by omega) (ok_eqb (r_depthOf W iD0 H.1 hk.1 hk.2) (ok_eqb (r_depthOf W iD0 H.1 ht hp) (ok_ite (fun g2 => ?_) (fun g2 => ?_))))
      · refine ok_grd (by (first | omega | (unfold r32; omega) | (unfold r64; omega) | (simp only [r32, r64] at *; omega))) ?_
        have := ih s (i + (-1)) pb (by omega) (by omega) (by omega) hpc hs (fun j j0 j1 => ?_)
        · exact eq_ok this rfl
        · by_cases e : j = i
          · rw [e]; exact g2
          · exact hno j (by omega) j1
      · have g2' : dep a 0 (σ 93 i) = dep a 0 t := Classical.not_not.mp g2
        have ep : prv a t (σ 93 pb) = σ 93 i := by
          have hmx := prvF_max a t (σ 93 pb) (a.many 0).toNat (σ 93 i) hk.1.1 (by have := hk.1.2; omega) hk.2 g2' (by rw [hT.2 i (by omega) (by omega), hT.2 pb (by omega) hpc]; exact hpb)
          rcases prv_b W t (σ 93 pb) with q | q
          · exfalso
            have : prvF a t (σ 93 pb) (a.many 0).toNat = -1 := q
            omega
          · obtain ⟨j, j0, j1, ej⟩ := c5 _ q.1 q.2.1
            have h3 := q.2.2.2
            have h4 : a.place (σ 93 i) ≤ a.place (prv a t (σ 93 pb)) := hmx.2
            rw [← ej, hT.2 j j0 j1, hT.2 pb (by omega) hpc] at h3
            rw [← ej, hT.2 j j0 j1, hT.2 i (by omega) (by omega)] at h4
            by_cases e : i < j
            · exact absurd (by rw [ej]; exact q.2.2.1) (hno j e h3)
            · rw [← ej, show j = i by omega]
        refine ok_grd (by (first | omega | (unfold r32; omega) | (unfold r64; omega) | (simp only [r32, r64] at *; omega))) (ok_ite (fun g3 => ok_grd (by (first | omega | (unfold r32; omega) | (unfold r64; omega) | (simp only [r32, r64] at *; omega))) ?_) (fun g3 => ok_grd (by omega) (ok_some ?_)))
        · obtain ⟨s, rfl⟩ : ∃ k, s = k + 1 := ⟨s - 1, by omega⟩
          have := ih s (i + (-1)) i (by omega) (by omega) (by omega) (by omega) (by omega) (fun j j0 j1 => by omega)
          rw [show ((s + 1 + 1 : Nat) : Int) + (-1) = ((s + 1 : Nat) : Int) by omega]
          exact eq_ok this (by rw [eb, ep])
        · rw [eb, ep, show s = 0 by omega]; rfl
theorem c_ahead (W : WFA a) {σ : Hp} (H : ICR σ a) {t s : Int} (ht : thr a 0 t) (hp : isP a 0 t) (s0 : 1 ≤ s) (s1 : s < 100) : f_TO_ahead σ t s 2 = some (bck a t s) := by
  have hT : Chn a (σ 93) (σ 92 0) ∧ ∀ i : Int, 0 ≤ i → i < σ 92 0 → a.place (σ 93 i) = i := H.2.2.2.1 0
  have c0 : 0 < σ 92 0 ∧ σ 92 0 ≤ 12 := hT.1 0
  have c5 : ∀ m : Int, thr a 0 m → isP a 0 m → ∃ i : Int, 0 ≤ i ∧ i < σ 92 0 ∧ σ 93 i = m := hT.1 5
  have pb := plc_b W ht hp
  obtain ⟨i, i0, i1, ei⟩ := c5 t ht hp
  have epl : a.place t = i := by rw [← ei]; exact hT.2 i i0 i1
  have L := c_ahead_12 W H ht hp zFuel (s.toNat - 1) (a.place t - 1) (a.place t) (by unfold zFuel; omega) (by omega) (by omega) (by omega) (by omega) (fun j j0 j1 => by omega)
  rw [show ((s.toNat - 1 + 1 : Nat) : Int) = s by omega, show s.toNat - 1 + 1 = s.toNat by omega, epl, ei, ← epl] at L
  unfold f_TO_ahead; apply ok_eq
  refine ok_eqb (r_place W H.2.2.2.1 ht hp) (ok_grd (by (first | omega | (unfold r32; omega) | (unfold r64; omega) | (simp only [r32, r64] at *; omega))) (eq_ok L rfl))
/-- what the class's value does, as a hypothesis for those that call it -/
def cVok (a : Ab) (m : Int) (n : Nat) (V : Hp → Int → Int → Option (Int × Hp)) (c : Int) : Prop := ∀ (σ : Hp) (t x y D : Int), RS σ a m n → cin a t x y → crk a t x y < c → 0 ≤ D → D + crk a t x y ≤ 33 → Okk (V σ (clq t x y) D) fun r => r.1 = val a m t x y ∧ RS r.2 a m n ∧ rch (10 * D) σ r.2
theorem c_back (W : WFA a) {n : Nat} {V : Hp → Int → Int → Option (Int × Hp)} {d t x y : Int} (hV : cVok a m n V (crk a t x y)) (hd : inD d) (h : cin a t x y) (hk : a.kind (12 * d + crd d t x y) = 2) {σ : Hp} (M : RS σ a m n) {z s D : Int} (z0 : 0 ≤ z) (z1 : z < crd d t x y) (s0 : 0 ≤ s) (s1 : s ≤ 11) (D0 : 0 ≤ D) (D1 : D + crk a t x y ≤ 33) : Okk (f_R_back V σ (clq (withD d z t x y).1 (withD d z t x y).2.1 (withD d z t x y).2.2) s D) fun r => r.1 = lokV (val a m) a d z s t x y ∧ RS r.2 a m n ∧ rch (10 * (D + 1)) σ r.2 := by
  have hw := wd_in hd h hk z0 z1
  have hcb := crk_b W hw.1
  unfold f_R_back
  by_cases hs : s = 0
  · rw [if_neg (fun g => g hs), lok_0 hs]
    refine ok_grd (by (first | omega | (unfold r32; omega) | (unfold r64; omega) | (simp only [r32, r64] at *; omega))) (ok_call (hV σ _ _ _ (D + 1) M hw.1 hw.2 (by omega) (by omega)) ?_)
    rintro r ⟨r1, r2, r3⟩
    exact ok_some ⟨r1, r2, r3⟩
  · rw [if_pos hs]
    refine ok_eqb (r_mOf σ W hw.1).1 (ok_eqb (r_isPlain W iD0 (M.1.1 0) (M.1.1 3) _) ?_)
    by_cases hp : isP a 0 (withD d z t x y).1
    · rw [bI_t ⟨hw.1.1, hp⟩, if_neg (by omega)]
      refine ok_bind (ok_eqb (c_ahead W M.1 hw.1.1 hp (by omega) (by omega)) (ok_some ?_))
      have hbm := bckF_m W (withD d z t x y).1 s.toNat (withD d z t x y).1 (Or.inr hw.1.1.1)
      rcases bck_b W (s := s) hw.1.1 hp with g | g
      · have : bck a (withD d z t x y).1 s = -1 := by
          unfold bck at g ⊢; omega
        rw [lok_n hs (fun q => by have := q.2; omega), this, if_neg (by simp)]
        exact ok_bind (ok_some (ok_some ⟨rfl, M, rch_r _ _⟩))
      · have t12 := thr12 W iD0 g.1
        rw [lok_y hs ⟨hp, g.1.1⟩, if_pos (by omega)]
        have hc : crk a (bck a (withD d z t x y).1 s) (withD d z t x y).2.1 (withD d z t x y).2.2 < crk a t x y := by rw [crk_tp hp g.2]; exact hw.2
        have hci : cin a (bck a (withD d z t x y).1 s) (withD d z t x y).2.1 (withD d z t x y).2.2 := ⟨g.1, hw.1.2⟩
        refine ok_bind (ok_eqb (r_withMember σ W hw.1 iD0 t12) (ok_grd (by (first | omega | (unfold r32; omega) | (unfold r64; omega) | (simp only [r32, r64] at *; omega))) (ok_call (hV σ (bck a (withD d z t x y).1 s) (withD d z t x y).2.1 (withD d z t x y).2.2 (D + 1) M hci hc (by omega) (by omega)) ?_)))
        rintro r ⟨r1, r2, r3⟩
        exact ok_some (ok_some ⟨r1, r2, r3⟩)
    · rw [bI_f (fun q => hp q.2), if_pos rfl, lok_n hs (fun q => hp q.1)]
      refine ok_bind (ok_some (ok_bind ?_))
      rw [if_neg (by simp)]
      exact ok_some (ok_some ⟨rfl, M, rch_r _ _⟩)
theorem c_toDate_45 (W : WFA a) (K : WFW a) (m0 : 0 ≤ m) (m1 : m < a.measures) {n : Nat} {V : Hp → Int → Int → Option (Int × Hp)} {t x y : Int} {c : Int} (hV : cVok a m n V c) (h : cin a t x y) (hp : isP a 0 t) (hc : crk a t x y < c) {D : Int} (D0 : 0 ≤ D) (D1 : D + 1 + crk a t x y ≤ 33) {σ0 : Hp} : ∀ (F k : Nat) (σ : Hp), (k : Int) ≤ t + 1 → t + 1 - k < F → RS σ a m n → rch (10 * (D + 1)) σ0 σ → Okk (f_R_toDate_45 V (clq t x y) D t (if t = 0 then -1 else now a 0 t) F (datF (fun k => val a m k x y) a t k) k σ) fun r => r.1 = datF (fun k => val a m k x y) a t (t.toNat + 1) ∧ RS r.2.2 a m n ∧ rch (10 * (D + 1)) σ0 r.2.2 := by
  have t12 := thr12 W iD0 h.1
  intro F
  induction F with
  | zero => intro k σ hk hF; omega
  | succ F ih =>
    intro k σ hk hF M hr
    rw [f_R_toDate_45]
    refine ok_ite (fun g => ok_some ⟨by rw [show t.toNat + 1 = k by omega], M, hr⟩) (fun g => ?_)
    have tk : thr a 0 k := thr_lt h.1 (by omega) (by omega)
    have e1 := datF_s (fun k => val a m k x y) a t k
    have hst : ∀ (p s : Int) (σ' : Hp), p = datF (fun k => val a m k x y) a t (k + 1) → s = ((k + 1 : Nat) : Int) → RS σ' a m n → rch (10 * (D + 1)) σ0 σ' → Okk (f_R_toDate_45 V (clq t x y) D t (if t = 0 then -1 else now a 0 t) F p s σ') fun r => r.1 = datF (fun k => val a m k x y) a t (t.toNat + 1) ∧ RS r.2.2 a m n ∧ rch (10 * (D + 1)) σ0 r.2.2 := by
      rintro p s σ' rfl rfl q1 q2; exact ih (k + 1) σ' (by omega) (by omega) q1 q2
    refine ok_eqb (r_isPlain W iD0 (M.1.1 0) (M.1.1 3) _) ?_
    refine ok_call (P := fun r => r.1 = datF (fun k => val a m k x y) a t (k + 1) ∧ RS r.2 a m n ∧ rch (10 * (D + 1)) σ0 r.2) ?_ (fun r hr => ok_grd (by (first | omega | (unfold r32; omega) | (unfold r64; omega) | (simp only [r32, r64] at *; omega))) (hst r.1 _ r.2 hr.1 (by omega) hr.2.1 hr.2.2))
    by_cases pk : isP a 0 k
    · rw [bI_t ⟨tk, pk⟩, if_neg (by omega)]
      refine ok_eqb (r_parentOf W iD0 M.1.1 tk pk) ?_
      have en : ∀ i : Int, now a 0 i = a.par i := fun i => by unfold now; exact prn_0 W i 99
      have cond : ((if (k : Int) = 0 then -1 else now a 0 k) = (if t = 0 then -1 else now a 0 t)) ↔ ((k : Int) = t ∨ (0 < t ∧ 0 < (k : Int) ∧ a.par k = a.par t)) := by
        rw [en, en]
        by_cases k0 : (k : Int) = 0
        · rw [if_pos k0]
          by_cases t0 : t = 0
          · rw [if_pos t0]; exact ⟨fun _ => Or.inl (by omega), fun _ => rfl⟩
          · rw [if_neg t0]
            have := par_b (wT W) h.1 hp (by omega)
            exact ⟨fun q => by omega, fun q => by omega⟩
        · rw [if_neg k0]
          have hk' := par_b (wT W) tk pk (by omega)
          by_cases t0 : t = 0
          · rw [if_pos t0]; exact ⟨fun q => by omega, fun q => by omega⟩
          · rw [if_neg t0]
            refine ⟨fun q => Or.inr ⟨by omega, by omega, q⟩, fun q => ?_⟩
            rcases q with q | q
            · rw [q]
            · exact q.2.2
      refine ok_ite (fun g2 => ok_some ⟨?_, M, hr⟩) (fun g2 => ?_)
      · rw [e1, if_neg (fun q => g2 (cond.mpr q.2))]
      · have g2' := Classical.not_not.mp g2
        have k12 : 0 ≤ (k : Int) ∧ (k : Int) < 12 := by omega
        have hci : cin a k x y := ⟨tk, h.2⟩
        have hck : crk a k x y = crk a t x y := crk_tp hp pk
        have hcb := crk_b W hci
        refine ok_eqb (r_withMember σ W h iD0 k12) (ok_grd (by (first | omega | (unfold r32; omega) | (unfold r64; omega) | (simp only [r32, r64] at *; omega))) (ok_call (hV σ k x y (D + 1) M hci (by omega) (by omega) (by omega)) ?_))
        rintro r ⟨r1, r2, r3⟩
        rw [r1]
        refine ok_eqb (e_R_plus _ (okv_datF k) (okv_val W K m0 m1 hci) (Or.inl rfl)) (ok_some ⟨?_, r2, rch_t hr r3 (by omega)⟩)
        rw [e1, if_pos ⟨pk, cond.mp g2'⟩]
    · rw [bI_f (fun q => pk q.2), if_pos rfl]
      refine ok_some ⟨?_, M, hr⟩
      rw [e1, if_neg (fun q => pk q.1)]
theorem c_toDate (W : WFA a) (K : WFW a) (m0 : 0 ≤ m) (m1 : m < a.measures) {n : Nat} {V : Hp → Int → Int → Option (Int × Hp)} {d t x y : Int} (hV : cVok a m n V (crk a t x y)) (hd : inD d) (h : cin a t x y) (hk : a.kind (12 * d + crd d t x y) = 2) {σ : Hp} (M : RS σ a m n) {z D : Int} (z0 : 0 ≤ z) (z1 : z < crd d t x y) (D0 : 0 ≤ D) (D1 : D + crk a t x y ≤ 33) : Okk (f_R_toDate V σ (clq (withD d z t x y).1 (withD d z t x y).2.1 (withD d z t x y).2.2) D) fun r => r.1 = datV (val a m) a d z t x y ∧ RS r.2 a m n ∧ rch (10 * (D + 1)) σ r.2 := by
  have hw := wd_in hd h hk z0 z1
  have t12 := thr12 W iD0 hw.1.1
  unfold f_R_toDate datV
  refine ok_eqb (r_mOf σ W hw.1).1 (ok_eqb (r_isPlain W iD0 (M.1.1 0) (M.1.1 3) _) ?_)
  by_cases hp : isP a 0 (withD d z t x y).1
  · rw [bI_t ⟨hw.1.1, hp⟩, if_pos (by omega), if_pos hp]
    refine ok_eqb (r_parentOf W iD0 M.1.1 hw.1.1 hp) (ok_call (c_toDate_45 W K m0 m1 hV hw.1 hp hw.2 D0 (by omega) (σ0 := σ) zFuel 0 σ (by omega) (by unfold zFuel; omega) M (rch_r _ _)) ?_)
    rintro r ⟨r1, r2, r3⟩
    exact ok_some ⟨r1, r2, r3⟩
  · rw [bI_f (fun q => hp q.2), if_neg (by omega), if_neg hp]
    exact ok_some ⟨rfl, M, rch_r _ _⟩
end

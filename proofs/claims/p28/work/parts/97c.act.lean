/-! ===== the law: what it does to the cube ===== -/
section
variable {σ s : Hp} {a a' b : Ab} {n N : Nat} {B B' : Int} {e : Nat} {d : Int} {C : Prop} {S : Int → Ab → Prop}
/-- a call whose throwing is told by a number -/
def WR (σ : Hp) (a : Ab) (N : Nat) (B : Int) (e : Nat) (S : Int → Ab → Prop) (r : Int × Nat × Hp) : Prop := r.2.1 ≤ e + 1 ∧ ∃ a', (S r.1 a' ∨ (-9 < r.1 ∧ r.1 < -1 ∧ a' = a)) ∧ kpQ σ r.2.2 ∧ J r.2.2 a' N (B + 60)
theorem wr_o {x : Option (Nat × Int × Hp)} {k : Nat × Int × Hp → Option (Int × Nat × Hp)} {P : Nat → Prop} (O : Okk x fun r => (r.1 = 0 ∨ P r.1) ∧ Aftr σ a N B C S r.1 r.2.1 r.2.2) (hk : ∀ r : Nat × Int × Hp, P r.1 → ∃ c : Int, k r = some (c, e + 1, r.2.2) ∧ -9 < c ∧ c < -1) : Okk (x.bind fun v1 => if v1.1 = 0 then some (v1.2.1, e, v1.2.2) else k v1) (WR σ a N B e S) := by
  refine ok_call O ?_
  rintro r ⟨hp, a', r1, r2, r3, r4⟩
  refine ok_ite (fun g => ok_some ⟨Nat.le_succ _, a', Or.inl (r1 g), r3, r4⟩) (fun g => ?_)
  obtain ⟨c, hc, c1, c2⟩ := hk r (hp.resolve_left g)
  exact ⟨_, hc, Nat.le_refl _, a', Or.inr ⟨c1, c2, (r2 g).1⟩, r3, r4⟩
theorem c_123 (r : Nat × Int × Hp) (h : r.1 = 1 ∨ r.1 = 2 ∨ r.1 = 3) : ∃ c : Int, (if r.1 = 1 then some ((-2), (e + 1), r.2.2) else if r.1 = 2 then some ((-3), (e + 1), r.2.2) else if r.1 = 3 then some ((-4), (e + 1), r.2.2) else none : Option (Int × Nat × Hp)) = some (c, e + 1, r.2.2) ∧ -9 < c ∧ c < -1 := by
  rcases h with h | h | h
  · exact ⟨-2, by rw [if_pos h], by omega, by omega⟩
  · exact ⟨-3, by rw [if_neg (by omega), if_pos h], by omega, by omega⟩
  · exact ⟨-4, by rw [if_neg (by omega), if_neg (by omega), if_pos h], by omega, by omega⟩
theorem c_23 (r : Nat × Int × Hp) (h : r.1 = 2 ∨ r.1 = 3) : ∃ c : Int, (if r.1 = 2 then some ((-3), (e + 1), r.2.2) else if r.1 = 3 then some ((-4), (e + 1), r.2.2) else none : Option (Int × Nat × Hp)) = some (c, e + 1, r.2.2) ∧ -9 < c ∧ c < -1 := by
  rcases h with h | h
  · exact ⟨-3, by rw [if_pos h], by omega, by omega⟩
  · exact ⟨-4, by rw [if_neg (by omega), if_pos h], by omega, by omega⟩
theorem c_13 (r : Nat × Int × Hp) (h : r.1 = 1 ∨ r.1 = 3) : ∃ c : Int, (if r.1 = 1 then some ((-2), (e + 1), r.2.2) else if r.1 = 3 then some ((-4), (e + 1), r.2.2) else none : Option (Int × Nat × Hp)) = some (c, e + 1, r.2.2) ∧ -9 < c ∧ c < -1 := by
  rcases h with h | h
  · exact ⟨-2, by rw [if_pos h], by omega, by omega⟩
  · exact ⟨-4, by rw [if_neg (by omega), if_pos h], by omega, by omega⟩
theorem c_3 (r : Nat × Int × Hp) (h : r.1 = 3) : ∃ c : Int, (if r.1 = 3 then some ((-4), (e + 1), r.2.2) else none : Option (Int × Nat × Hp)) = some (c, e + 1, r.2.2) ∧ -9 < c ∧ c < -1 := ⟨-4, by rw [if_pos h], by omega, by omega⟩
theorem y_members (H : J σ a N B) (hB : B ≤ 100000) (d p w : Int) : Okk (f_L_members σ e d p w) (WR σ a N B e (fun v b => TKg a b d ∧ v = a.many d)) := by
  unfold f_L_members
  exact wr_o (P := fun c => c = 1 ∨ c = 2 ∨ c = 3) (i_member H hB d p w) (fun r h => c_123 r h)
theorem y_bridges (H : J σ a N B) (hB : B ≤ 100000) (d p : Int) : Okk (f_L_bridges σ e d p) (WR σ a N B e (fun v b => TKg a b d ∧ v = a.many d)) := by
  unfold f_L_bridges
  exact wr_o (P := fun c => c = 1 ∨ c = 2 ∨ c = 3) (i_bridge H hB d p) (fun r h => c_123 r h)
theorem y_moves (H : J σ a N B) (hB : B ≤ 100000) (d p w t : Int) : Okk (f_L_moves σ e d p w t) (WR σ a N B e (fun v b => TKs a b ∧ -1 ≤ v)) := by
  unfold f_L_moves
  exact wr_o (P := fun c => c = 1 ∨ c = 3) (i_move H hB d p w t) (fun r h => c_13 r h)
theorem y_words (H : J σ a N B) (hB : B ≤ 100000) (d p w : Int) : Okk (f_L_words σ e d p w) (WR σ a N B e (fun _ b => TKs a b)) := by
  unfold f_L_words
  exact wr_o (P := fun c => c = 2 ∨ c = 3) (i_word H hB d p w) (fun r h => c_23 r h)
theorem y_measures (H : J σ a N B) (hB : B ≤ 100000) (d p w : Int) : Okk (f_L_measures σ e d p w) (WR σ a N B e (fun v b => v = a.measures ∧ (∀ d : Int, inD d → b.many d = a.many d) ∧ b.measures = a.measures + 1 ∧ b.hits = a.hits)) := by
  unfold f_L_measures
  exact wr_o (P := fun c => c = 1 ∨ c = 2 ∨ c = 3) (i_measure H hB d p w) (fun r h => c_123 r h)
theorem y_facts (H : J σ a N B) (hB : B ≤ 100000) (d p w t u : Int) : Okk (f_L_facts σ e d p w t u) (WR σ a N B e (fun w b => TKs a b ∧ 0 ≤ w)) := by
  unfold f_L_facts
  exact wr_o (P := fun c => c = 1 ∨ c = 2 ∨ c = 3) (i_fact H hB d p w t u) (fun r h => c_123 r h)
theorem y_writes (H : J σ a N B) (hB : B ≤ 100000) (d p w t u z : Int) : Okk (f_L_writes σ e d p w t u z) (WR σ a N B e (fun w b => TKs a b ∧ 0 ≤ w)) := by
  unfold f_L_writes
  exact wr_o (P := fun c => c = 1 ∨ c = 2 ∨ c = 3) (i_write H hB d p w t u z) (fun r h => c_123 r h)
theorem y_ends (H : J σ a N B) (hB : B ≤ 100000) (x : Int) : Okk (f_L_ends σ e x) (WR σ a N B e (fun v b => TKs a b ∧ 0 ≤ v)) := by
  unfold f_L_ends
  exact wr_o (P := fun c => c = 3) (i_end H hB) (fun r h => c_3 r h)
theorem y_picks (H : J σ a N B) (hB : B ≤ 100000) (d p w t u : Int) : Okk (f_L_picks σ e d p w t u) (WR σ a N B e (pkT a d p w t u)) := by
  unfold f_L_picks
  exact wr_o (P := fun c => c = 1 ∨ c = 2 ∨ c = 3) (i_pick H hB d p w t u) (fun r h => c_123 r h)
theorem y_begins (H : J σ a N B) : Okk (f_L_begins σ e) (WR σ a N B e (fun v b => TKs a b ∧ v = 0)) := by
  unfold f_L_begins
  refine ok_call (i_begin H) ?_
  rintro r ⟨hp, a', r1, r2, r3, r4⟩
  refine ok_ite (fun g => ok_some ⟨Nat.le_succ _, a', Or.inl ⟨r1 g, rfl⟩, r3, r4⟩) (fun g => ?_)
  rw [if_pos (hp.resolve_left g)]
  exact ok_some ⟨Nat.le_refl _, a', Or.inr ⟨by show (-9 : Int) < -4; omega, by show (-4 : Int) < -1; omega, (r2 g).1⟩, r3, r4⟩
theorem y_calculates (H : J σ a (n % 1048576) B) (hB : B ≤ 100000) (hN : n % 1048576 + 4 < 1048576) (hd : inD d) (x : Int) : Okk (f_L_calculates σ n e d x) fun r => r.2.2.1 ≤ e + 1 ∧ (r.2.1 = n ∨ r.2.1 = n + 4) ∧ ∃ a', ((0 ≤ r.1 ∧ TKg a a' d) ∨ (r.1 < 0 ∧ a' = a)) ∧ kpQ σ r.2.2.2 ∧ J r.2.2.2 a' (r.2.1 % 1048576) (B + 60) := by
  unfold f_L_calculates
  have mb := many_b H.1 hd
  refine ok_call (i_calc H hB hN d x) ?_
  rintro r ⟨hp, hn, a', r1, r2, r3, r4⟩
  refine ok_ite (fun g => ok_some ⟨Nat.le_succ _, hn, a', Or.inl ⟨by show 0 ≤ r.2.1; rw [(r1 g).2]; omega, (r1 g).1⟩, r3, r4⟩) (fun g => ?_)
  have ea := r2 g
  rcases hp.resolve_left g with h | h | h
  · rw [if_pos h]
    exact ok_some ⟨Nat.le_refl _, hn, a', Or.inr ⟨by show (-2 : Int) < 0; omega, ea⟩, r3, r4⟩
  · rw [if_neg (by omega), if_pos h]
    exact ok_some ⟨Nat.le_refl _, hn, a', Or.inr ⟨by show (-3 : Int) < 0; omega, ea⟩, r3, r4⟩
  · rw [if_neg (by omega), if_neg (by omega), if_pos h]
    exact ok_some ⟨Nat.le_refl _, hn, a', Or.inr ⟨by show (-4 : Int) < 0; omega, ea⟩, r3, r4⟩
/-! the law's int[5] goes with the cube -/
theorem nA_s (A : nA σ a) (h : s 129 = σ 129) (T : TKs a a') : nA s a' := ⟨fun d hd => by rw [h, T.1 d hd]; exact A.1 d hd, by rw [h, T.2.1]; exact A.2.1, by rw [h, T.2.2]; exact A.2.2.1, by rw [T.2.1]; exact A.2.2.2⟩
theorem nA_g {t j : Int} (hd : inD d) (A : nA σ a) (h : s 129 = σ 129) (c : (0 ≤ t ∧ TKg a a' d) ∨ (t < 0 ∧ a' = a)) (hj : j = if 0 ≤ t then 1 else 0) : nA (hset s 129 d (s 129 d + j)) a' := by
  have hd' := inD_b hd
  rcases c with ⟨t0, T⟩ | ⟨t0, rfl⟩
  · rw [if_pos t0] at hj
    subst hj
    refine ⟨fun k hk => ?_, ?_, ?_, by rw [T.2.1]; exact A.2.2.2⟩
    · rw [hs_if, T.1 k hk, h]
      by_cases q : k = d
      · rw [if_pos q, if_pos q, A.1 d hd]
      · rw [if_neg q, if_neg q]; exact A.1 k hk
    · rw [hs_nj (by omega), h, T.2.1]; exact A.2.1
    · rw [hs_nj (by omega), h, T.2.2]; exact A.2.2.1
  · rw [if_neg (by omega)] at hj
    subst hj
    refine ⟨fun k hk => ?_, ?_, ?_, A.2.2.2⟩
    · rw [hs_if, h]
      by_cases q : k = d
      · rw [if_pos q, q, A.1 d hd]; omega
      · rw [if_neg q]; exact A.1 k hk
    · rw [hs_nj (by omega), h]; exact A.2.1
    · rw [hs_nj (by omega), h]; exact A.2.2.1
theorem ok_sg {t : Int} {k : Int → Option (Int × Nat × Nat × Hp)} {Q : Int × Nat × Nat × Hp → Prop} (K : ∀ j : Int, (j = if 0 ≤ t then 1 else 0) → Okk (k j) Q) : Okk ((if 0 ≤ t then some 1 else some 0 : Option (Int)).bind k) Q :=
  ok_call (P := fun j => j = if 0 ≤ t then 1 else 0) (ok_ite (fun g => ok_some (if_pos g).symm) (fun g => ok_some (if_neg g).symm)) K
theorem act_end {t : Int} {k : Int → Option (Int × Nat × Nat × Hp)} {Q : Int × Nat × Nat × Hp → Prop} (W : WFA a) (hd : inD d) (A : nA σ a) (h : s 129 = σ 129) (c : (0 ≤ t ∧ TKg a a' d) ∨ (t < 0 ∧ a' = a)) (K : ∀ j : Int, nA (hset s 129 d (s 129 d + j)) a' → Okk (k j) Q) : Okk ((if 0 ≤ t then some 1 else some 0 : Option (Int)).bind fun j => grd (r32 (s 129 d + j)) <| grd (0 ≤ d ∧ d < 5) <| k j) Q := by
  have hd' := inD_b hd
  have mb := many_b W hd
  refine ok_sg (fun j hj => ?_)
  have j2 : 0 ≤ j ∧ j ≤ 1 := by
    by_cases g : 0 ≤ t
    · rw [if_pos g] at hj; omega
    · rw [if_neg g] at hj; omega
  refine ok_grd ?_ (ok_grd (by omega) (K j (nA_g hd A h c hj)))
  rw [h, A.1 d hd]; unfold r32; omega
/-- what an act leaves -/
def ActQ (σ : Hp) (a : Ab) (n e : Nat) (B : Int) (r : Int × Nat × Nat × Hp) : Prop := r.2.2.1 ≤ e + 4 ∧ (r.2.1 = n ∨ r.2.1 = n + 4) ∧ ∃ a', nA r.2.2.2 a' ∧ (∀ q : Nat, 1048576 ≤ q → r.2.2.2 q = σ q) ∧ J r.2.2.2 a' (r.2.1 % 1048576) (B + 240) ∧ (r.1 < -1 → -9 < r.1 → a' = a)
theorem act_mk {t : Int} {n' e' : Nat} (he : e' ≤ e + 4) (hn : n' = n ∨ n' = n + 4) (A : nA s a') (K : kpQ σ s) (Js : J s a' (n' % 1048576) B') (hB : B' ≤ B + 240) (h : t < -1 → -9 < t → a' = a) : Okk (some (t, n', e', s)) (ActQ σ a n e B) := ok_some ⟨he, hn, a', A, fun q q1 => K q (by omega) (by omega), J_up Js hB, h⟩
theorem act_mk2 {t x : Int} {n' e' : Nat} (hd : inD d) (he : e' ≤ e + 4) (hn : n' = n ∨ n' = n + 4) (A : nA (hset s 129 d x) a') (K : kpQ σ s) (Js : J s a' (n' % 1048576) B') (hB : B' ≤ B + 240) (h : t < -1 → -9 < t → a' = a) : Okk (some (t, n', e', hset s 129 d x)) (ActQ σ a n e B) := ok_some ⟨he, hn, a', A, fun q q1 => by dsimp only; rw [hset_ne (by omega)]; exact K q (by omega) (by omega), J_up (J_h Js (fun q hq => by dsimp only; rw [hset_ne (by omega)])) hB, h⟩
theorem ok_01 {x : Int} {k : Int → Option (Int × Nat × Nat × Hp)} {Q : Int × Nat × Nat × Hp → Prop} (K : ∀ j : Int, (j = 0 ∨ j = 1) → Okk (k j) Q) : Okk ((if x = 0 then some 0 else some 1 : Option (Int)).bind k) Q := ok_call (P := fun j => j = 0 ∨ j = 1) (ok_ite (fun _ => ok_some (Or.inl rfl)) (fun _ => ok_some (Or.inr rfl))) K
theorem ok_10 {α : Type} {x : Int} {k : Int → Option α} {Q : α → Prop} (K : ∀ j : Int, (j = 0 ∨ j = 1) → Okk (k j) Q) : Okk ((if x ≠ 0 then some 0 else some 1 : Option (Int)).bind k) Q := ok_call (P := fun j => j = 0 ∨ j = 1) (ok_ite (fun _ => ok_some (Or.inl rfl)) (fun _ => ok_some (Or.inr rfl))) K
theorem grow_c {v : Int} (W : WFA a) (hd : inD d) (c : (TKg a a' d ∧ v = a.many d) ∨ (-9 < v ∧ v < -1 ∧ a' = a)) : ((0 ≤ v ∧ TKg a a' d) ∨ (v < 0 ∧ a' = a)) ∧ (v < -1 → -9 < v → a' = a) := by
  have mb := many_b W hd
  rcases c with ⟨T, e⟩ | ⟨_, h, ea⟩
  · exact ⟨Or.inl ⟨by omega, T⟩, fun q _ => by omega⟩
  · exact ⟨Or.inr ⟨by omega, ea⟩, fun _ _ => ea⟩
/-- what the totals' call leaves -/
theorem act_tot (H : J σ a (n % 1048576) B) (A : nA σ a) (x : Int) : Okk ((f_L_low σ x 2).bind fun v75 => (if v75 ≠ 0 then some 0 else some 1 : Option (Int)).bind fun j77 => (f_C_totals σ j77).bind fun v79 => (if v79.1 = 0 then some 0 else some 1 : Option (Int)).bind fun j81 => some (j81, n, e, v79.2)) (ActQ σ a n e B) := by
  refine ok_eqb (e_low σ x (by omega)) (ok_10 (fun j hj => ok_call (i_totals H hj) ?_))
  rintro r ⟨a', T, K, Js⟩
  refine ok_01 (fun j hj => ?_)
  exact act_mk (by omega) (Or.inl rfl) (nA_s A (K 129 (by omega) (by omega)) T) K Js (by omega) (fun q _ => by omega)
/-- words for a draft, and what is made of them -/
theorem act_words {Q : Int × Nat × Nat × Hp → Prop} {k : Hp × Nat → Option (Int × Nat × Nat × Hp)} (H : J σ a (n % 1048576) B) (hB : B ≤ 99000) (y : Int) (K : ∀ j : Hp × Nat, (j.2 ≤ e + 3 ∧ ∃ a', TKs a a' ∧ kpQ σ j.1 ∧ J j.1 a' (n % 1048576) (B + 180)) → Okk (k j) Q) : Okk ((f_L_low σ y 3).bind fun v188 => (if v188 ≠ 0 then some 12 else some 900 : Option (Int)).bind fun j190 => (f_L_low σ (ishr y 2) j190).bind fun v192 => (f_L_low σ (ishr y 5) 3).bind fun v194 => (f_L_words σ e v188 v192 v194).bind fun v196 => (f_L_low v196.2.2 (ishr y 7) 3).bind fun v198 => (if v198 ≠ 0 then some (v196.2.2, v196.2.1) else (f_L_low v196.2.2 (ishr y 4) 3).bind fun v202 => (f_L_low v196.2.2 (ishr y 6) 3).bind fun v204 => (f_L_words v196.2.2 v196.2.1 v202 v204 0).bind fun v206 => (f_L_low v206.2.2 (ishr y 8) 5).bind fun v208 => grd (r32 (3 + v208)) <| (f_L_words v206.2.2 v206.2.1 (3 + v208) 0 0).bind fun v211 => some (v211.2.2, v211.2.1) : Option (Hp × Nat)).bind k) Q := by
  refine ok_eqb (e_low σ y (by omega)) (ok_call (P := fun j => 0 < j) (ok_ite (fun _ => ok_some (by omega)) (fun _ => ok_some (by omega))) ?_)
  intro j j0
  refine ok_eqb (e_low σ _ j0) (ok_eqb (e_low σ _ (by omega)) (ok_call (y_words H (by omega) _ _ _) ?_))
  rintro u ⟨u1, b, ub, uK, uJ⟩
  have ub' : TKs a b := by
    rcases ub with h | ⟨_, _, h⟩
    · exact h
    · rw [h]; exact TKs_r _
  refine ok_eqb (e_low _ _ (by omega)) (ok_call (P := fun j => j.2 ≤ e + 3 ∧ ∃ a', TKs a a' ∧ kpQ σ j.1 ∧ J j.1 a' (n % 1048576) (B + 180)) ?_ K)
  refine ok_ite (fun _ => ok_some ⟨by dsimp only; omega, b, ub', uK, J_up uJ (by omega)⟩) (fun _ => ?_)
  refine ok_eqb (e_low _ _ (by omega)) (ok_eqb (e_low _ _ (by omega)) (ok_call (y_words uJ (by omega) _ _ _) ?_))
  rintro v ⟨v1, c, vc, vK, vJ⟩
  have vc' : TKs b c := by
    rcases vc with h | ⟨_, _, h⟩
    · exact h
    · rw [h]; exact TKs_r _
  have l5 := lw_b (ishr y 8) (k := 5) (by omega)
  refine ok_eqb (e_low _ _ (by omega)) (ok_grd (by unfold r32; omega) (ok_call (y_words vJ (by omega) _ _ _) ?_))
  rintro w ⟨w1, c', wc, wK, wJ⟩
  have wc' : TKs c c' := by
    rcases wc with h | ⟨_, _, h⟩
    · exact h
    · rw [h]; exact TKs_r _
  exact ok_some ⟨by dsimp only; omega, c', TKs_tr ub' (TKs_tr vc' wc'), kpQ_t uK (kpQ_t vK wK), J_up wJ (by omega)⟩
end

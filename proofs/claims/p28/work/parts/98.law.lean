/-! ===== the law's turns ===== -/
section
variable {σ s : Hp} {a a' b : Ab} {n N : Nat} {B B' : Int} {e : Nat} {d m : Int}
theorem z_members : f_L_members σ e 3 0 1 = some (-2, e + 1, σ) := by
  unfold f_L_members; apply ok_eq
  refine ok_eqb (v := (1, 0, σ)) ?_ ?_
  · unfold f_C_member; apply ok_eq
    refine ok_eqb (nX_n (by unfold inD; omega)) ?_
    rw [if_neg (by simp)]
    exact ok_grd (by simp) (ok_some rfl)
  · rw [if_neg (by simp), if_pos rfl]; exact ok_some rfl
theorem z_bridges : f_L_bridges σ e 0 0 = some (-3, e + 1, σ) := by
  unfold f_L_bridges; apply ok_eq
  refine ok_eqb (v := (2, 0, σ)) ?_ ?_
  · unfold f_C_bridge; apply ok_eq
    refine ok_eqb (nX_y iD0) ?_
    rw [if_pos rfl]
    refine ok_call (P := fun j => j = 0) (ok_ite (fun _ => ok_some rfl) (fun g => absurd (by omega) g)) ?_
    rintro j rfl
    rw [if_pos rfl]
    refine ok_eqb (nR_n (by omega)) ?_
    rw [if_neg (by omega)]
    exact ok_grd (by omega) (ok_some rfl)
  · rw [if_neg (by simp), if_neg (by simp), if_pos rfl]; exact ok_some rfl
theorem z_measures : f_L_measures σ e 4 0 0 = some (-3, e + 1, σ) := by
  unfold f_L_measures; apply ok_eq
  refine ok_eqb (v := (2, 0, σ)) ?_ ?_
  · unfold f_C_measure; apply ok_eq
    refine ok_call (P := fun j => j.1 = 0) (ok_ite (fun _ => ok_some rfl) (fun g => absurd (by omega) g)) ?_
    intro j hj
    rw [if_pos hj]
    refine ok_eqb (nR_n (by omega)) ?_
    rw [if_neg (by omega)]
    exact ok_grd (by omega) (ok_some rfl)
  · rw [if_neg (by simp), if_neg (by simp), if_pos rfl]; exact ok_some rfl
theorem z_words : f_L_words σ e 7 0 0 = some (-3, e + 1, σ) := by
  unfold f_L_words; apply ok_eq
  refine ok_eqb (v := (2, 0, σ)) ?_ ?_
  · unfold f_C_word; apply ok_eq
    refine ok_eqb (nR_n (by omega)) ?_
    rw [if_neg (by omega)]
    exact ok_grd (by omega) (ok_some rfl)
  · rw [if_neg (by simp), if_pos rfl]; exact ok_some rfl
theorem z_facts (H : J σ a N B) : f_L_facts σ e 12 0 0 0 0 = some (-2, e + 1, σ) := by
  have W := H.1
  have mb := many_b W iD0
  unfold f_L_facts; apply ok_eq
  refine ok_eqb (v := (1, 0, σ)) ?_ ?_
  · unfold f_C_fact; apply ok_eq
    refine ok_eqb (nC_n' W (IC_r H.2.2.2.1).1 (fun q => by have := q.1.2; omega)) ?_
    rw [if_neg (by simp)]
    exact ok_grd (by simp) (ok_some rfl)
  · rw [if_neg (by simp), if_pos rfl]; exact ok_some rfl
theorem z_picks3 (H : J σ a N B) : f_L_picks σ e 0 3 0 0 0 = some (-3, e + 1, σ) := by
  have mb := many_b H.1 iD0
  unfold f_L_picks; apply ok_eq
  refine ok_eqb (c_pick_e H (cd := 2) (Or.inr (Or.inl ⟨⟨iD0, fun _ => ⟨by omega, by omega⟩, fun q => absurd rfl q⟩, fun q => by omega, rfl⟩))) ?_
  rw [if_neg (by simp), if_neg (by simp), if_pos rfl]; exact ok_some rfl
theorem z_picks2 (H : J σ a N B) : f_L_picks σ e 0 2 12 0 0 = some (-3, e + 1, σ) := by
  unfold f_L_picks; apply ok_eq
  refine ok_eqb (c_pick_e H (cd := 2) (Or.inr (Or.inl ⟨⟨iD0, fun q => absurd rfl q, fun q => absurd rfl q⟩, fun q => by have := q.2.2 rfl; omega, rfl⟩))) ?_
  rw [if_neg (by simp), if_neg (by simp), if_pos rfl]; exact ok_some rfl
theorem z_calculates : f_L_calculates σ n e 3 0 = some (-2, n, e + 1, σ) := by
  unfold f_L_calculates; apply ok_eq
  refine ok_eqb (v := (1, 0, n, σ)) ?_ ?_
  · unfold f_C_calculate; apply ok_eq
    refine ok_eqb (nX_n (by unfold inD; omega)) ?_
    rw [if_neg (by simp)]
    exact ok_grd (by simp) (ok_some rfl)
  · rw [if_neg (by simp), if_pos rfl]; exact ok_some rfl
/-- what the law comes to -/
def LawQ (r : Int × Nat × Nat × Hp) : Prop := r.1 = 1 ∧ r.2.1 % 1048576 ≤ 315 ∧ r.2.1 / 1048576 ≤ 72 ∧ r.2.2.1 ≤ 300
theorem l_turn {q : Nat × (Nat → Int32)} (hq : q.1 < 2147483648) : ∀ (F : Nat) (i : Int) (σ : Hp) (a : Ab) (n e : Nat), 0 ≤ i → i ≤ 36 → 36 - i < F → J σ a (n % 1048576) (400 + 2520 * i) → nA σ a → ((n % 1048576 : Nat) : Int) ≤ 171 + 4 * i → ((n / 1048576 : Nat) : Int) ≤ 2 * i → (e : Int) ≤ 7 * i → Okk (f_L_law_71 q F i σ n e) LawQ := by
  intro F
  induction F with
  | zero => intro i σ a n e i0 i1 hF; omega
  | succ F ih =>
    intro i σ a n e i0 i1 hF H A hn hp he
    rw [f_L_law_71]
    refine ok_ite (fun g => ?_) (fun g => ?_)
    · refine ok_eqb z_members (ok_call (P := fun j => j = (1, σ, n, e + 8)) ?_ ?_)
      · rw [if_neg (by simp)]
        refine ok_eqb z_bridges ?_
        rw [if_neg (by simp)]
        refine ok_eqb z_measures ?_
        rw [if_neg (by simp)]
        refine ok_eqb z_words ?_
        rw [if_neg (by simp)]
        refine ok_eqb (z_facts H) ?_
        rw [if_neg (by simp)]
        refine ok_eqb (z_picks3 H) ?_
        rw [if_neg (by simp)]
        refine ok_eqb (z_picks2 H) ?_
        rw [if_neg (by simp)]
        refine ok_eqb z_calculates ?_
        rw [if_neg (by simp)]
        exact ok_some rfl
      · rintro j rfl
        exact ok_grd (by omega) (ok_some ⟨rfl, by dsimp only; omega, by dsimp only; omega, by dsimp only; omega⟩)
    · refine ok_grd (by unfold r32; omega) (ok_grd (by omega) (ok_grd (by unfold r32; omega) (ok_grd (by unfold r32; omega) (ok_grd (by omega) (ok_call (l_tell (n := n) H A (by omega)) ?_)))))
      rintro w ⟨w1, w2, wJ, wK, wR⟩
      have wA := nA_s A wK.1 (TKs_r a)
      have en : w.2.1 % 1048576 = n % 1048576 := by rw [w2]; omega
      rw [← en] at wJ
      refine ok_eqb (e_low _ _ (by omega)) (ok_call (l_act (e := e) wJ wA (by omega) (by omega) _ _) ?_)
      rintro u ⟨u1, u2, b, uA, uK, uJ, uq⟩
      have un : ((u.2.1 % 1048576 : Nat) : Int) ≤ 171 + 4 * (i + 1) := by omega
      have up : u.2.1 / 1048576 = n / 1048576 + 1 := by omega
      have nx : ∀ (z : Int × Nat × Hp) (n' : Nat), ((n' % 1048576 : Nat) : Int) ≤ 171 + 4 * (i + 1) → ((n' / 1048576 : Nat) : Int) ≤ 2 * (i + 1) → AskQ (n' % 1048576) (u.2.2.1 + 3) (400 + 2520 * (i + 1)) z → ∀ k : Option (Int × Nat × Nat × Hp), Okk (if z.1 ≠ 0 then grd (r32 (i + 1)) <| f_L_law_71 q F (i + 1) z.2.2 n' z.2.1 else k) LawQ := by
        rintro z n' h1 h2 ⟨z1, z2, c, zA, zJ⟩ k
        rw [if_pos (by omega)]
        exact ok_grd (by unfold r32; omega) (ih (i + 1) z.2.2 c n' z.2.1 (by omega) (by omega) (by omega) zJ zA h1 h2 (by omega))
      have pl : Okk (f_L_asks u.2.2.2 u.2.2.1 (scrV q (2 * i))) (AskQ (u.2.1 % 1048576) (u.2.2.1 + 3) (400 + 2520 * (i + 1))) := by
        refine ok_mono (l_asks uJ uA (by omega) _) ?_
        rintro z ⟨z1, z2, c, zA, zJ⟩
        exact ⟨z1, z2, c, zA, J_up zJ (by omega)⟩
      refine ok_ite (fun _ => ok_call pl (fun z hz => nx z u.2.1 un (by omega) hz _)) (fun g1 => ok_ite (fun _ => ok_call pl (fun z hz => nx z u.2.1 un (by omega) hz _)) (fun g2 => ?_))
      have ea : b = a := uq (by omega) (by omega)
      subst ea
      refine ok_call (l_tell (n := u.2.1) uJ uA (by omega)) ?_
      rintro v ⟨v1, v2, vJ, vK, vR⟩
      have vA := nA_s uA vK.1 (TKs_r b)
      have sm : f_L_same v.2.2 w.1 v.1 = some 1 := by
        refine l_same (fun j j0 => ?_)
        rw [w1, v1, vR j j0, vK.2 _ (by omega) (by omega), uK _ (by omega), wR j j0]
      refine ok_eqb sm ?_
      rw [if_neg (by omega)]
      have ev : v.2.1 % 1048576 = u.2.1 % 1048576 := by rw [v2]; omega
      rw [← ev] at vJ
      refine ok_call (ok_mono (l_asks (e := u.2.2.1) vJ vA (by omega) _) ?_) (fun z hz => nx z v.2.1 (by omega) (by omega) hz _)
      rintro z ⟨z1, z2, c, zA, zJ⟩
      exact ⟨z1, z2, c, zA, J_up zJ (by omega)⟩
/-! how it begins -/
theorem l_start3 {q : Nat × (Nat → Int32)} (hq : q.1 < 2147483648) : ∀ (F : Nat) (i : Int) (σ : Hp) (a : Ab) (e : Nat), 0 ≤ i → i ≤ 3 → 3 - i < F → J σ a 171 (60 * i) → (∀ d : Int, inD d → d < i → σ 129 d = 2 ∧ a.many d = 2) → (∀ d : Int, inD d → i ≤ d → a.many d = 1) → σ 129 4 = 0 → a.measures = 0 → e = 0 → Okk (f_L_law_14 q 171 F i σ e) LawQ := by
  intro F
  induction F with
  | zero => intro i σ a e i0 i1 hF; omega
  | succ F ih =>
    intro i σ a e i0 i1 hF H h1 h2 h4 hm he
    rw [f_L_law_14]
    refine ok_ite (fun g => ?_) (fun g => ?_)
    · have J1 : J (hset σ 129 3 2) a 171 (60 * i) := J_h H (fun q hq => hset_ne (by omega))
      refine ok_grd (by omega) (ok_call (i_measure J1 (by omega) 0 0 0) ?_)
      rintro r ⟨_, b, r1, r2, rK, rJ⟩
      have r0 : r.1 = 0 := Classical.byContradiction (fun q => (r2 q).2 ⟨⟨fun w => by omega, by omega⟩, by omega⟩)
      obtain ⟨t1, t2, t3, t4⟩ := r1 r0
      refine ok_grd r0 ?_
      rw [if_neg (fun q => q (by rw [t1, hm]))]
      refine ok_call (i_measure rJ (by omega) 1 0 0) ?_
      rintro u ⟨_, c, u1, u2, uK, uJ⟩
      have u0 : u.1 = 0 := Classical.byContradiction (fun q => (u2 q).2 ⟨⟨fun w => by omega, by omega⟩, by omega⟩)
      obtain ⟨w1, w2, w3, w4⟩ := u1 u0
      refine ok_grd u0 ?_
      rw [if_pos (by rw [w1, t3, hm]; rfl)]
      have E : u.2.2 129 = (hset σ 129 3 2) 129 := by rw [uK 129 (by omega) (by omega), rK 129 (by omega) (by omega)]
      have A : nA u.2.2 c := by
        refine ⟨fun k hk => ?_, ?_, ?_, by omega⟩
        · have hk' := inD_b hk
          rw [E, hs_nj (by omega), w2 k hk, t2 k hk, (h1 k hk (by omega)).1, (h1 k hk (by omega)).2]
        · rw [E, hs_eq, w3, t3, hm]; rfl
        · have := uJ.2.2.2.2.2.1
          rw [E, hs_nj (by omega), h4]; exact this
      exact l_turn hq zFuel 0 u.2.2 c 171 e (by omega) (by omega) (by unfold zFuel; omega) (by rw [show 171 % 1048576 = 171 by omega]; exact J_up uJ (by omega)) A (by omega) (by omega) (by omega)
    · have hd : inD i := inD_of (by omega)
      have J1 : J (hset σ 129 i 2) a 171 (60 * i) := J_h H (fun q hq => hset_ne (by omega))
      have mi := h2 i hd (by omega)
      refine ok_grd (by omega) (ok_call (i_member J1 (by omega) i 0 1) ?_)
      rintro r ⟨_, b, r1, r2, rK, rJ⟩
      have r0 : r.1 = 0 := Classical.byContradiction (fun q => (r2 q).2 ⟨⟨⟨hd, ⟨by omega, by omega⟩⟩, by omega⟩, isP_0 H.1 hd, by omega⟩)
      obtain ⟨t1, t2⟩ := r1 r0
      refine ok_grd r0 ?_
      rw [if_pos (by rw [t2, mi])]
      have E : r.2.2 129 = (hset σ 129 i 2) 129 := rK 129 (by omega) (by omega)
      refine ok_grd (by unfold r32; omega) (ih (i + 1) r.2.2 b e (by omega) (by omega) (by omega) (by rw [show 60 * (i + 1) = 60 * i + 60 by omega]; exact rJ) (fun k hk hki => ?_) (fun k hk hki => ?_) ?_ ?_ he)
      · rw [E, t1.1 k hk, hs_if]
        by_cases z : k = i
        · rw [if_pos z, if_pos z, mi]; omega
        · rw [if_neg z, if_neg z]; exact h1 k hk (by omega)
      · rw [t1.1 k hk, if_neg (by omega)]; exact h2 k hk (by omega)
      · rw [E, hs_nj (by omega)]; exact h4
      · rw [t1.2.1]; exact hm
/-- on every script the law's function ends, and its answer is 1 -/
theorem law_true {q : Nat × (Nat → Int32)} (hq : q.1 < 2147483648) : ∃ (n e : Nat) (σ : Hp), f_L_law q zBegin 171 0 = some (1, n, e, σ) ∧ n % 1048576 ≤ 315 ∧ n / 1048576 ≤ 72 ∧ e ≤ 300 := by
  have h := l_start3 hq zFuel 0 zBegin abB 0 (by omega) (by omega) (by unfold zFuel; omega) J_begin (fun d hd hlt => by have := inD_b hd; omega) (fun d hd _ => ab_many hd) (by decide +kernel) ab_n.2.2.2.1 rfl
  obtain ⟨⟨c, n, e, σ⟩, hr, r1, r2, r3, r4⟩ := h
  exact ⟨n, e, σ, by unfold f_L_law; rw [hr, show c = 1 from r1], r2, r3, r4⟩
end

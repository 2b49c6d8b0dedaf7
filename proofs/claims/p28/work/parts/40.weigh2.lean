/-! ===== a row of weights, all rows ===== -/
/-- what the rows stand on -/
def pre (σ : Hp) (a : Ab) (p : Nat) (d : Int) : Prop := icd σ a p d 0 ∧ icd σ a p d 3 ∧ icd σ a p d 4 ∧ icd σ a p d 5 ∧ icd σ a p d 13 ∧ ict σ a 1
theorem pre_w {σ σ' : Hp} {a : Ab} {p : Nat} {d : Int} (h : ∀ q : Nat, ¬ (p + 17 ≤ q ∧ q ≤ p + 29) → σ' q = σ q) (hp : p ≤ 62) (H : pre σ a p d) : pre σ' a p d :=
  ⟨icd_c0 (h _ (by omega)) H.1, icd_c3 (h _ (by omega)) H.2.1, icd_c4 (h _ (by omega)) (h _ (by omega)) H.2.2.1, icd_c5 (h _ (by omega)) H.2.2.2.1, icd_c13 (h _ (by omega)) (h _ (by omega)) (h _ (by omega)) (h _ (by omega)) H.2.2.2.2.1, ict_c1 (h _ (by omega)) H.2.2.2.2.2⟩
/-- row r holds the weights at u of the members below i, and of i those over the ones below o -/
def rowOk (σ : Hp) (a : Ab) (p : Nat) (d r u i o : Int) : Prop := ∀ m k : Int, thr a d m → isP a d m → thr a d k → (m < i ∨ (m = i ∧ k < o)) → σ (p + 17 + r.toNat) (12 * m + k) = wgt a d m k u
theorem c_wr53 {a : Ab} (W : WFA a) {p : Nat} {d : Int} (hd : inD d) (hp6 : p ≤ 62) {r u i : Int} (hr : 0 ≤ r ∧ r < 13) (hi : thr a d i) (hpi : isP a d i) : ∀ (F : Nat) (o : Int) (σ : Hp), pre σ a p d → 0 ≤ o → o ≤ a.many d → a.many d - o < F → rowOk σ a p d r u i o → Okk (f_D_weighRow_53 p r (if i = 0 then -1 else prn a d i u) i F o σ) fun s => sam (p + 17 + r.toNat) σ s.2 ∧ rowOk s.2 a p d r u (i + 1) 0 := by
  have hmb := many_b W hd
  have hi0 := hi.1
  have hi12 : i < 12 := by have := hi.2; omega
  intro F
  induction F with
  | zero => intro o σ H o0 o1 hF; omega
  | succ F ih =>
    intro o σ H o0 o1 hF hok
    have h0' : σ p 0 = a.many d := H.1
    rw [f_D_weighRow_53, h0']
    refine ok_ite (fun hc => ok_some ⟨sam_r _ _, fun m k hm hpm hk h => hok m k hm hpm hk (by have := hk.1; have := hk.2; omega)⟩) (fun hc => ?_)
    have ho : thr a d o := ⟨o0, by omega⟩
    refine ok_grd (by omega) (ok_grd (by (first | omega | (unfold r32; omega) | (unfold r64; omega) | (simp only [r32, r64] at *; omega))) (ok_grd (by (first | omega | (unfold r32; omega) | (unfold r64; omega) | (simp only [r32, r64] at *; omega))) ?_))
    refine ok_eqb (c_weightOver W hd H.1 H.2.1 H.2.2.1 H.2.2.2.1 hr hi hpi ho (u := u) (fun k k0 k1 hpk => ?_) (fun hi1 hpo hle => ?_)) ?_
    · rw [hok i k hi hpi ⟨k0, by omega⟩ (Or.inr ⟨rfl, k1⟩), wgt_p hpk]
    · have hb := prn_b W hd hi hpi hi1 u
      rw [hok _ o (thr_lt hi hb.1 (by omega)) hb.2.2 ho (Or.inl (by omega)), wgt_p hpo]
    · refine ok_grd (by omega) (ok_grd (by (first | omega | (unfold r32; omega) | (unfold r64; omega) | (simp only [r32, r64] at *; omega))) ?_)
      have e17 : p + 16 + 1 + r.toNat = p + 17 + r.toNat := by omega
      rw [e17, show i * 12 + o = 12 * i + o by omega]
      have hs : sam (p + 17 + r.toNat) σ (hset σ (p + 17 + r.toNat) (12 * i + o) (wgt a d i o u)) := sam_h
      refine ok_mono (ih (o + 1) _ (pre_w (fun q hq => hs q (by omega)) hp6 H) (by omega) (by omega) (by omega) ?_) ?_
      · intro m k hm hpm hk h
        have hk0 := hk.1
        have hk1 := hk.2
        by_cases e : m = i ∧ k = o
        · obtain ⟨rfl, rfl⟩ := e; exact hs_eq
        · rw [hs_nj (by omega)]; exact hok m k hm hpm hk (by omega)
      · rintro s ⟨s1, s2⟩
        exact ⟨sam_t hs s1, s2⟩
theorem c_wr3 {a : Ab} (W : WFA a) {p : Nat} {d : Int} (hd : inD d) (hp6 : p ≤ 62) {r pl u : Int} (hr : 0 ≤ r ∧ r < 13) (hu : ∀ t : Int, thr a 0 t → isP a 0 t → (a.place t ≤ pl ↔ a.place t ≤ u)) : ∀ (F : Nat) (i : Int) (σ : Hp), pre σ a p d → 0 ≤ i → i ≤ a.many d → a.many d - i < F → rowOk σ a p d r u i 0 → Okk (f_D_weighRow_3 p r pl F i σ) fun s => sam (p + 17 + r.toNat) σ s.2 ∧ rowOk s.2 a p d r u (a.many d) 0 := by
  have hmb := many_b W hd
  intro F
  induction F with
  | zero => intro i σ H o0 o1 hF; omega
  | succ F ih =>
    intro i σ H i0 i1 hF hok
    have h0' : σ p 0 = a.many d := H.1
    rw [f_D_weighRow_3, h0']
    refine ok_ite (fun hc => ok_some ⟨sam_r _ _, fun m k hm hpm hk h => hok m k hm hpm hk (by have := hk.1; have := hm.2; omega)⟩) (fun hc => ?_)
    have hi : thr a d i := ⟨i0, by omega⟩
    refine ok_eqb (r_isPlain W hd H.1 H.2.1 i) ?_
    by_cases hp : isP a d i
    · rw [bI_t ⟨hi, hp⟩, if_neg (by omega)]
      have hdn : Okk (if i ≠ 0 then grd (0 ≤ i ∧ i < 12) <| (f_MV_parentAt σ (p + 1) i (σ (p + 6) i) pl).bind fun v10 => some v10 else some (-1) : Option Int) fun v => v = if i = 0 then -1 else prn a d i u := by
        by_cases hz : i = 0
        · rw [if_neg (by simpa using hz), if_pos hz]; exact ok_some rfl
        · rw [if_pos hz, if_neg hz]
          have h4' : σ (p + 6) i = a.par (12 * d + i) ∧ σ (p + 7) i = a.sign (12 * d + i) := (show ∀ m : Int, thr a d m → isP a d m → 0 < m → σ (p + 6) m = a.par (12 * d + m) ∧ σ (p + 7) m = a.sign (12 * d + m) from H.2.2.1) i hi hp (by omega)
          rw [h4'.1]
          exact ok_grd (by omega) (ok_eqb (c_parentAt W H.2.2.2.2.1 H.2.2.2.2.2 hu) (ok_some (bPar_prn a d i u)))
      refine ok_bind (ok_call hdn ?_)
      rintro v rfl
      refine ok_call (c_wr53 W hd hp6 hr hi hp zFuel 0 σ H (by omega) (by omega) (by unfold zFuel; omega) hok) ?_
      rintro s ⟨s1, s2⟩
      refine ok_some (ok_grd (by (first | omega | (unfold r32; omega) | (unfold r64; omega) | (simp only [r32, r64] at *; omega))) ?_)
      refine ok_mono (ih (i + 1) s.2 (pre_w (fun q hq => s1 q (by omega)) hp6 H) (by omega) (by omega) (by omega) s2) ?_
      rintro t ⟨t1, t2⟩
      exact ⟨sam_t s1 t1, t2⟩
    · rw [bI_f (fun g => hp g.2), if_pos rfl]
      refine ok_bind (ok_some (ok_grd (by (first | omega | (unfold r32; omega) | (unfold r64; omega) | (simp only [r32, r64] at *; omega))) ?_))
      refine ih (i + 1) σ H (by omega) (by omega) (by omega) ?_
      intro m k hm hpm hk h
      have : m ≠ i := fun e => hp (e ▸ hpm)
      have := hk.1
      exact hok m k hm hpm hk (by omega)
theorem c_weighRow {a : Ab} (W : WFA a) {p : Nat} {d : Int} (hd : inD d) (hp6 : p ≤ 62) {r pl u : Int} (hr : 0 ≤ r ∧ r < 13) (hu : ∀ t : Int, thr a 0 t → isP a 0 t → (a.place t ≤ pl ↔ a.place t ≤ u)) {σ : Hp} (H : pre σ a p d) : Okk (f_D_weighRow σ p r pl) fun s => sam (p + 17 + r.toNat) σ s ∧ rowOk s a p d r u (a.many d) 0 := by
  have hmb := many_b W hd
  unfold f_D_weighRow
  refine ok_call (c_wr3 W hd hp6 hr hu zFuel 0 σ H (by omega) (by omega) (by unfold zFuel; omega) ?_) (fun s hs => ok_some hs)
  intro m k hm hpm hk h
  have := hm.1
  have := hk.1
  omega

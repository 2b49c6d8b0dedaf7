section
variable {σ : Hp} {a a' b : Ab} {n : Nat} {B : Int} {e : Nat} {d o : Int}
/-- all that the draft looks at is below M -/
def lkA (a : Ab) (M : Int) : Prop := ∀ k : Int, 0 ≤ k → k < a.len 36 → a.what (10 * 36 + k) = 1 ∨ a.what (10 * 36 + k) = 2 → a.one (10 * 36 + k) < M
theorem c_looks (K : WFW a) (H : ICW σ a n) (M : Int) : f_F_looksBeyond σ (σ 0 6) M = some (bI (¬ lkA a M)) := by
  obtain ⟨g1, g2, g3⟩ : fPt n (σ 0 6) ∧ fHd σ a (σ 0 6).toNat 36 ∧ σ (σ 0 6).toNat 1 = pilF a 36 (a.len 36).toNat := H 0
  have k0 : wrdOk a 36 := K 0
  have l0 : 0 ≤ a.len 36 ∧ a.len 36 ≤ 10 := ⟨k0.1, k0.2.1⟩
  have P0 := (fPt_b g1).1
  have L : ∀ (F : Nat) (k : Int), 0 ≤ k → k ≤ a.len 36 → a.len 36 - k < F → (∀ j : Int, 0 ≤ j → j < k → a.what (10 * 36 + j) = 1 ∨ a.what (10 * 36 + j) = 2 → a.one (10 * 36 + j) < M) → Okk (f_F_looksBeyond_2 σ (σ 0 6) M F k) fun r => r = bI (¬ lkA a M) := by
    intro F
    induction F with
    | zero => intro k q0 q1 hF; omega
    | succ F ih =>
      intro k q0 q1 hF hj
      rw [f_F_looksBeyond_2, g2.1]
      refine ok_grd P0 (ok_ite (fun g => ok_grd (by omega) (ok_some (bI_f (fun z => z (fun j j0 j1 => hj j j0 (by omega)))).symm)) (fun g => ?_))
      have f := g2.2 k q0 (by omega)
      have nx : (a.what (10 * 36 + k) = 1 ∨ a.what (10 * 36 + k) = 2 → a.one (10 * 36 + k) < M) → Okk (grd (r32 (k + 1)) <| f_F_looksBeyond_2 σ (σ 0 6) M F (k + 1)) fun r => r = bI (¬ lkA a M) := fun h => ok_grd (by (first | omega | (unfold r32; omega) | (unfold r64; omega) | (simp only [r32, r64] at *; omega))) (ih (k + 1) (by omega) (by omega) (by omega) (fun j j0 j1 => by
        by_cases z : j = k
        · rw [z]; exact h
        · exact hj j j0 (by omega)))
      have no : (a.what (10 * 36 + k) = 1 ∨ a.what (10 * 36 + k) = 2) → ¬ a.one (10 * 36 + k) < M → Okk (grd (0 ≤ (1 : Int) ∧ (1 : Int) ≤ 1) <| some (1 : Int)) fun r => r = bI (¬ lkA a M) := fun h1 h2 => ok_grd (by omega) (ok_some (bI_t (fun z => h2 (z k q0 (by omega) h1))).symm)
      rw [f.1, f.2.1]
      refine ok_grd P0 (ok_grd (by omega) (ok_ite (fun w1 => ok_grd P0 (ok_grd (by omega) (ok_ite (fun h => nx (fun _ => h)) (fun h => no (Or.inl w1) h)))) (fun w1 => ok_grd P0 (ok_grd (by omega) (ok_ite (fun w2 => nx (fun z => absurd z (by omega))) (fun w2 => ok_grd P0 (ok_grd (by omega) (ok_ite (fun h => nx (fun _ => h)) (fun h => no (Or.inr (by omega)) h)))))))))
  unfold f_F_looksBeyond
  exact ok_eq (L zFuel 0 (by omega) l0.1 (by unfold zFuel; omega) (fun j j0 j1 => by omega))
theorem c_addCalc (W : WFA a) (R : ICR σ a) (hd : inD d) (hm : a.many d < 12) {P : Int} (hP : 0 ≤ P) (o : Int) : f_D_addCalculated σ (dP d) P o = some (a.many d, hset (hset (hset (hset (hset σ (dP d + 5) (a.many d) 2) (dP d) 0 (a.many d + 1)) (dP d + 11) (a.many d) P) (dP d + 9) (a.many d) o) (dP d + 15) (a.many d) 1) := by
  have mb := many_b W hd
  have e0 : σ (dP d) 0 = a.many d := icr_d R hd 0
  unfold f_D_addCalculated
  apply ok_eq
  refine ok_eqb (e_D_addKind (k := 2) e0 (by omega) hm) ?_
  dsimp only
  have e1 : (hset (hset σ (dP d + 5) (a.many d) 2) (dP d) 0 (a.many d + 1)) (dP d) 0 = a.many d + 1 := hs_eq
  refine ok_eqb (e_D_has _ (dP d) (a.many d)) ?_
  rw [e1, bI_t ⟨by omega, by omega, hm⟩, if_neg (by omega)]
  exact ok_bind (ok_grd ⟨by omega, hm⟩ (ok_grd hP (ok_grd ⟨by omega, hm⟩ (ok_grd ⟨by omega, hm⟩ (ok_grd (by omega) (ok_some (ok_some rfl)))))))
/-- the class's part -/
theorem c_calc (W : WFA a) (K : WFW a) (I : IC σ a n B) (C : caC a d o) (hN : n + 4 < 1048576) {B' : Int} (hB : B ≤ B') {t : Hp} (ht : t = hset (hset (hset (hset (hset σ (dP d + 5) (a.many d) 2) (dP d) 0 (a.many d + 1)) (dP d + 11) (a.many d) (σ 0 6)) (dP d + 9) (a.many d) o) (dP d + 15) (a.many d) 1) : (∀ q : Nat, 129 ≤ q → (q ≤ 169 ∨ 1048576 ≤ q) → hset (hset (zFormula t n) 0 6 n) 108 0 0 q = σ q) ∧ IC (hset (hset (zFormula t n) 0 6 n) 108 0 0) (caA a d o) (n + 4) B' := by
  obtain ⟨R, IK, IW, I9⟩ := IC_r I
  have hd := C.1
  have hdp := dP_b hd
  obtain ⟨j, hj⟩ : ∃ j : Nat, n = 171 + 4 * j := IW 2
  generalize hu : hset (hset (zFormula t n) 0 6 n) 108 0 0 = u
  have Z : ∀ q : Nat, q < n → zFormula t n q = t q := fun q hq => by
    funext i; unfold zFormula; rw [if_neg (by omega), if_neg (by omega)]
  have T : ∀ q : Nat, q ≠ dP d → q ≠ dP d + 5 → q ≠ dP d + 9 → q ≠ dP d + 11 → q ≠ dP d + 15 → t q = σ q := fun q q1 q2 q3 q4 q5 => by rw [ht, hset_ne q5, hset_ne q3, hset_ne q4, hset_ne q1, hset_ne q2]
  have U : ∀ q : Nat, q < n → q ≠ 0 → q ≠ 108 → u q = t q := fun q q1 q2 q3 => by rw [← hu, hset_ne q3, hset_ne q2, Z q q1]
  have X : ∀ q : Nat, q < n → q ≠ 0 → q ≠ 108 → q ≠ dP d → q ≠ dP d + 5 → q ≠ dP d + 9 → q ≠ dP d + 11 → q ≠ dP d + 15 → u q = σ q := fun q q1 q2 q3 q4 q5 q6 q7 q8 => by rw [U q q1 q2 q3, T q q4 q5 q6 q7 q8]
  have u0 : u (dP d) = hset σ (dP d) 0 (a.many d + 1) (dP d) := by
    rw [U _ (by omega) (by omega) (by omega), ht, hset_ne (by omega), hset_ne (by omega), hset_ne (by omega)]
    funext i; rw [hs_if, hs_if, hset_ne (by omega)]
  have u5 : ∀ i : Int, u (dP d + 5) i = if i = a.many d then 2 else σ (dP d + 5) i := fun i => by
    rw [U _ (by omega) (by omega) (by omega), ht, hset_ne (by omega), hset_ne (by omega), hset_ne (by omega), hset_ne (by omega)]; exact hs_if
  have u9 : ∀ i : Int, u (dP d + 9) i = if i = a.many d then o else σ (dP d + 9) i := fun i => by
    rw [U _ (by omega) (by omega) (by omega), ht, hset_ne (by omega), hs_if, hset_ne (by omega), hset_ne (by omega), hset_ne (by omega)]
  have u11 : ∀ i : Int, u (dP d + 11) i = if i = a.many d then σ 0 6 else σ (dP d + 11) i := fun i => by
    rw [U _ (by omega) (by omega) (by omega), ht, hset_ne (by omega), hset_ne (by omega), hs_if, hset_ne (by omega), hset_ne (by omega)]
  have u15 : ∀ i : Int, u (dP d + 15) i = if i = a.many d then 1 else σ (dP d + 15) i := fun i => by
    rw [U _ (by omega) (by omega) (by omega), ht, hs_if, hset_ne (by omega), hset_ne (by omega), hset_ne (by omega), hset_ne (by omega)]
  have eh : Ab.hits (caA a d o) = a.hits := ca_j (by omega)
  have D : ∀ d' : Int, inD d' → ICD u (caA a d o) (dP d') d' := by
    intro d' hd'
    have hdp' := dP_b hd'
    refine ca_ICD W C hd' (icr_d R hd') ?_
    by_cases g : d' = d
    · subst g
      refine ⟨⟨?_, ?_, ?_⟩, fun q hq => X q (by omega) (by omega) (by omega) (by omega) (by omega) (by omega) (by omega) (by omega), fun m hm => ?_, fun _ => ⟨?_, ?_, ?_⟩⟩
      · rw [u0, hs_eq, if_pos rfl]
      · rw [u0, hs_nj (by omega)]
      · rw [u0, hs_nj (by omega)]
      · have hne : ¬ m = a.many d' := fun z => hm ⟨rfl, z⟩
        rw [u5, u9, u15, if_neg hne, if_neg hne, if_neg hne]
        exact ⟨rfl, rfl, rfl⟩
      · rw [u5, if_pos rfl]
      · rw [u9, if_pos rfl]
      · rw [u15, if_pos rfl]
    · have := dP_ne hd hd' g
      have E : ∀ q : Nat, dP d' ≤ q → q ≤ dP d' + 29 → u q = σ q := fun q q1 q2 => X q (by omega) (by omega) (by omega) (by omega) (by omega) (by omega) (by omega) (by omega)
      have e0 : σ (dP d') 0 = a.many d' := icr_d R hd' 0
      refine ⟨⟨?_, ?_, ?_⟩, fun q hq => E q (by omega) (by omega), fun m _ => ?_, fun z => absurd z g⟩
      · rw [E _ (by omega) (by omega), if_neg g]; exact e0
      · rw [E _ (by omega) (by omega)]
      · rw [E _ (by omega) (by omega)]
      · rw [E _ (by omega) (by omega), E _ (by omega) (by omega), E _ (by omega) (by omega)]
        exact ⟨rfl, rfl, rfl⟩
  have Y : ∀ q : Nat, 92 ≤ q → q < n → q ≠ 108 → u q = σ q := fun q q1 q2 q3 => X q q2 (by omega) q3 (by omega) (by omega) (by omega) (by omega) (by omega)
  have Yh : ∀ q : Nat, n + 4 ≤ q → u q = σ q := fun q hq => by
    rw [← hu, hset_ne (by omega), hset_ne (by omega), ← T q (by omega) (by omega) (by omega) (by omega) (by omega)]
    funext i
    unfold zFormula
    rw [if_neg (by omega), if_neg (by omega)]
  refine ⟨fun q q1 q2 => by
    rcases q2 with q2 | q2
    · exact Y q (by omega) (by omega) (by omega)
    · exact Yh q (by omega), IC_mk ⟨D 0 iD0, D 1 iD1, D 2 iD2, ca_ICT W C (fun q q1 q2 => Y q (by omega) (by omega) (by omega)) R.2.2.2.1, ?_, ICM_s ca_M (ICM_e (fun q q1 q2 => Y q (by omega) (by omega) (by omega)) R.2.2.2.2.2.1), ICF_s ca_F (ICF_e (fun q q1 q2 => Y q (by omega) (by omega) (by omega)) R.2.2.2.2.2.2)⟩ (ICK_0 ?_ ?_ (frs_0 _)) (ca_ICW W K C hN IW (fun q hq => Y q (by omega) (by omega) (by omega)) ?_ ⟨?_, ?_⟩ ?_ (fun d' m hd' hne => ?_)) ?_⟩
  · rw [X 1 (by omega) (by omega) (by omega) (by omega) (by omega) (by omega) (by omega) (by omega), show Ab.asNow (caA a d o) = a.asNow from ca_j (by omega), show Ab.leave (caA a d o) = a.leave from ca_j (by omega)]
    exact R.2.2.2.2.1
  · rw [← hu]; exact hs_eq
  · rw [← hu, hs_nj (by omega), hset_ne (by omega), Z 108 (by omega), T 108 (by omega) (by omega) (by omega) (by omega) (by omega), eh]; exact (hit_e IK).2
  · rw [← hu, hset_ne (by omega)]; exact hs_eq
  · rw [← hu, hset_ne (by omega), hset_ne (by omega)]
    unfold zFormula; rw [if_pos rfl, if_neg (by omega), if_neg (by omega), if_neg (by omega)]
  · rw [← hu, hset_ne (by omega), hset_ne (by omega)]
    unfold zFormula; rw [if_pos rfl, if_neg (by omega), if_neg (by omega), if_neg (by omega)]
  · rw [u11, if_pos rfl]
  · have hdp' := dP_b hd'
    by_cases g : d' = d
    · subst g
      rw [u11, if_neg (fun z => hne ⟨rfl, z⟩)]
    · have := dP_ne hd hd' g
      rw [X (dP d' + 11) (by omega) (by omega) (by omega) (by omega) (by omega) (by omega) (by omega) (by omega)]
  · unfold ic9 at I9 ⊢; rw [Y 116 (by omega) (by omega) (by omega), Y 117 (by omega) (by omega) (by omega)]; exact ⟨I9.1, by omega, I9.2.2⟩
end

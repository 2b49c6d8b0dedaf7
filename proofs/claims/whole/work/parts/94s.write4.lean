section
variable {σ : Hp} {a a' b : Ab} {n : Nat} {B : Int} {e : Nat} {t x y m v h : Int}
theorem m_write_pre (W : WFA a) {σ' : Hp} (V1 : Vw σ' a) {Q : Int × Hp → Prop} (K : Okk (wrK σ' t x y m v h (bI (mem4 a t x y m)) (bI (wRg v h)) (bI (mem4 a t x y m ∧ ¬ wOk a t x y m))) Q) : Okk (f_M_write σ' t x y m v h) Q := by
  unfold f_M_write
  refine ok_eqb (e_M_areThere W V1 t x y m) (ok_eqb (e_M_in σ' v 0 1000000) ?_)
  refine ok_call (P := fun j => j = bI (wRg v h)) ?_ ?_
  · by_cases G1 : 0 ≤ v ∧ v ≤ 1000000
    · rw [bI_t G1, if_neg (by omega)]
      refine ok_eqb (e_M_in σ' h 0 2) ?_
      by_cases G2 : 0 ≤ h ∧ h ≤ 2
      · rw [bI_t G2, if_neg (by omega)]; exact ok_some (bI_t ⟨G1, G2⟩).symm
      · rw [bI_f G2, if_pos rfl]; exact ok_some (bI_f (fun w => G2 w.2)).symm
    · rw [bI_f G1, if_pos rfl]; exact ok_some (bI_f (fun w => G1 w.1)).symm
  rintro j5 rfl
  refine ok_call (P := fun j => j = bI (mem4 a t x y m ∧ ¬ wOk a t x y m)) ?_ ?_
  · by_cases T : mem4 a t x y m
    · have hc : cin a t x y := ⟨T.1, T.2.1, T.2.2.1⟩
      have m4 := (mea W T.2.2.2.1 T.2.2.2.2).1
      have t12 := thr12 W iD0 hc.1
      have x12 := thr12 W iD1 hc.2.1
      have y12 := thr12 W iD2 hc.2.2
      have yes : ¬ wOk a t x y m → (1 : Int) = bI (mem4 a t x y m ∧ ¬ wOk a t x y m) := fun w => (bI_t ⟨T, w⟩).symm
      have lk := lead_k W hc
      rw [bI_t T, if_neg (by omega), w_mk V1]
      refine ok_grd ⟨T.2.2.2.1, m4⟩ (ok_ite (fun q => ok_some (yes (fun w => q w.1))) (fun q0 => ?_))
      refine ok_eqb (e_M_areSeen W V1 hc.1 hc.2.1 hc.2.2) ?_
      by_cases q1 : seeP a 0 t ∧ seeP a 1 x ∧ seeP a 2 y
      · rw [bI_t q1, if_neg (by omega), w_kind V1, w_kind V1, w_kind V1]
        refine ok_grd (by omega) (ok_ite (fun q => ok_some (yes (fun w => (lk.mp w.2.2).1 q))) (fun q2 => ok_grd (by (first | omega | (unfold r32; omega) | (unfold r64; omega) | (simp only [r32, r64] at *; omega))) (ok_grd (by omega) (ok_ite (fun q => ok_some (yes (fun w => (lk.mp w.2.2).2.1 q))) (fun q3 => ok_grd (by (first | omega | (unfold r32; omega) | (unfold r64; omega) | (simp only [r32, r64] at *; omega))) (ok_grd (by omega) (ok_ite (fun q4 => ok_some ?_) (fun q => ok_some (yes (fun w => q (lk.mp w.2.2).2.2))))))))))
        exact (bI_f (fun w => w.2 ⟨Classical.not_not.mp q0, q1, lk.mpr ⟨q2, q3, q4⟩⟩)).symm
      · rw [bI_f q1, if_pos rfl]; exact ok_some (yes (fun w => q1 w.2.1))
    · rw [bI_f T, if_pos rfl]; exact ok_some (bI_f (fun w => T w.1)).symm
  rintro j10 rfl
  exact K
theorem m_196n {j25 : Int × Hp} (h0 : j25.1 ≤ 0) (s : Hp) (w : Int) : f_M_write_196 j25 s zFuel w 0 = some (w, 0) := by
  obtain ⟨F, e⟩ : ∃ F, zFuel = F + 1 := ⟨zFuel - 1, by unfold zFuel; omega⟩
  rw [e, f_M_write_196, if_pos h0]
theorem m_343n {j25 : Int × Hp} (h0 : j25.1 ≤ 0) (s : Hp) : f_M_write_343 j25 zFuel 0 0 s = some (0, 0, s) := by
  obtain ⟨F, e⟩ : ∃ F, zFuel = F + 1 := ⟨zFuel - 1, by unfold zFuel; omega⟩
  rw [e, f_M_write_343, if_pos h0]
theorem w_j54 (W : WFA a) (T : mem4 a t x y m) {s : Hp} (V : Vw s a) : Okk ((f_M_isPlain s 0 t).bind fun v56 => if v56 = 0 then some 1 else (f_M_isPlain s 1 x).bind fun v58 => if v58 = 0 then some 1 else (f_M_isPlain s 2 y).bind fun v60 => if v60 = 0 then some 1 else if (s 129 29) ≠ 50 then some 0 else some 1 : Option (Int)) fun j => j = bI (¬ ((isP a 0 t ∧ isP a 1 x ∧ isP a 2 y) ∧ a.facts < 50)) := by
  have h12 : 0 ≤ a.facts ∧ a.facts ≤ 50 ∧ _ := W 12
  refine ok_eqb (e_M_isPlain V iD0 (thr12 W iD0 T.1)) ?_
  by_cases p0 : isP a 0 t
  · rw [bI_t p0, if_neg (by omega)]
    refine ok_eqb (e_M_isPlain V iD1 (thr12 W iD1 T.2.1)) ?_
    by_cases p1 : isP a 1 x
    · rw [bI_t p1, if_neg (by omega)]
      refine ok_eqb (e_M_isPlain V iD2 (thr12 W iD2 T.2.2.1)) ?_
      by_cases p2 : isP a 2 y
      · rw [bI_t p2, if_neg (by omega), w_facts V]
        exact ok_ite (fun q => ok_some (bI_f (fun w => w ⟨⟨p0, p1, p2⟩, by omega⟩)).symm) (fun q => ok_some (bI_t (fun w => by omega)).symm)
      · rw [bI_f p2, if_pos rfl]; exact ok_some (bI_t (fun w => p2 w.1.2.2)).symm
    · rw [bI_f p1, if_pos rfl]; exact ok_some (bI_t (fun w => p1 w.1.2.1)).symm
  · rw [bI_f p0, if_pos rfl]; exact ok_some (bI_t (fun w => p0 w.1.1)).symm
/-- only what is scratch differs -/
def scr (σ s : Hp) : Prop := ∀ q : Nat, q < 167 ∨ 169 < q → s q = σ q
theorem Vw_scr {s : Hp} (V : Vw σ a) (H : scr σ s) : Vw s a := fun q j hq => by
  have : q < 167 := by unfold vwP at hq; omega
  rw [H q (by omega)]; exact V q j hq
theorem MR_er2 {σ' s : Hp} (V1 : Vw σ' a) (VV1 : ICV σ' a (B + 1)) (E : scr σ' s) (code v w : Int) (hc : code ≠ 0) : MR σ' a (B + 61) code v (w, hset s 129 50 code) := by
  refine ⟨(show hset s 129 50 code 129 50 = code from hs_eq), fun g => absurd g hc, fun q hq => ?_, Vw_50 (Vw_scr V1 E) _, ICV_50 (ICV_f VV1 (E 161 (by omega)) (E 160 (by omega)) (by rw [E 129 (by omega)]) (by rw [E 129 (by omega)]) (Int.le_refl _)) _ (by omega)⟩
  show hset s 129 50 code q = σ' q
  rw [hset_ne (by omega), E q (by omega)]
theorem MR_w {σ' s t' : Hp} (VV1 : ICV σ' a (B + 1)) (W' : WFA a') (V' : Vw s a') (E : scr σ' t') (P : pcw (hset t' 129 50 0) s 50) (hh : (a' = a ∧ s 129 38 = σ' 129 38) ∨ σ' 129 38 < s 129 38) (v : Int) : MR σ' a' (B + 61) 0 v (v, s) := by
  have v0 : 1 ≤ σ' 129 38 ∧ σ' 129 38 ≤ B + 1 ∧ _ := VV1 0
  obtain ⟨p1, p2, p3, p4, p5⟩ := P
  have e38 : (hset t' 129 50 0) 129 38 = σ' 129 38 := by rw [hs_nj (by omega), E 129 (by omega)]
  have e161 : s 161 = σ' 161 := by rw [p1 161 (by omega), hset_ne (by omega), E 161 (by omega)]
  have e160 : s 160 = σ' 160 := by rw [p1 160 (by omega), hset_ne (by omega), E 160 (by omega)]
  have e46 : s 129 46 = σ' 129 46 := by rw [p2, hs_nj (by omega), E 129 (by omega)]
  refine ⟨?_, fun _ => rfl, fun q hq => ?_, V', ?_⟩
  · show s 129 50 = 0
    rw [p3, hs_eq]
  · show s q = σ' q
    rw [p1 q (by omega), hset_ne (by omega), E q (by omega)]
  · rcases hh with ⟨z1, z2⟩ | z
    · rw [z1]; exact ICV_f VV1 e161 e160 z2 e46 (by omega)
    · exact ICV_fresh VV1 e161 z (by dsimp only; omega) e46 W'
/-- the error's end -/
theorem m_w_end {σ' j31 : Hp} (V1 : Vw σ' a) (VV1 : ICV σ' a (B + 1)) (E : scr σ' j31) {code v' : Int} (hc : 0 < code) {f : Int × Hp → Option (Int × Hp)} : Okk ((f_M_holds j31 code).bind fun v72 => if v72.1 = 0 then f v72 else some ((-1), v72.2)) (MR σ' a (B + 61) code v') := by
  refine ok_eqb (e_M_holds _ _) ?_
  dsimp only
  rw [if_neg (show ¬ code ≤ 0 by omega), if_neg (by omega)]
  exact ok_some (MR_er2 V1 VV1 E code v' (-1) (by omega))
theorem m_w_1 (W : WFA a) (T : ¬ mem4 a t x y m) {σ' : Hp} (V1 : Vw σ' a) (VV1 : ICV σ' a (B + 1)) : Okk (f_M_write σ' t x y m v h) (MR σ' a (B + 61) 1 0) := by
  refine m_write_pre W V1 ?_
  rw [bI_f T, bI_f (P := mem4 a t x y m ∧ ¬ wOk a t x y m) (fun w => T w.1)]
  unfold wrK
  rw [if_pos rfl]
  refine ok_bind (ok_some ?_)
  refine ok_call (P := fun s => s = σ') (ok_ite (fun _ => ok_some rfl) (fun q => absurd (Int.le_refl 0) q)) ?_
  rintro s rfl
  refine ok_eqb (m_196n (Int.le_refl 0) s 0) ?_
  refine ok_call (P := fun j => True) (ok_ite (fun _ => ok_some trivial) (fun _ => ok_ite (fun _ => ok_some trivial) (fun q => absurd rfl q))) ?_
  intro j54 _
  refine ok_call (P := fun j => j = 1) (ok_ite (fun q => absurd rfl q) (fun _ => ok_some rfl)) ?_
  rintro j rfl
  exact m_w_end V1 VV1 (fun _ _ => rfl) (by omega)
theorem m_w_2 (W : WFA a) (T : mem4 a t x y m) (G : ¬ wRg v h) {σ' : Hp} (V1 : Vw σ' a) (VV1 : ICV σ' a (B + 1)) : Okk (f_M_write σ' t x y m v h) (MR σ' a (B + 61) 2 0) := by
  refine m_write_pre W V1 ?_
  rw [bI_t T, bI_f G]
  generalize bI (mem4 a t x y m ∧ ¬ wOk a t x y m) = j10
  unfold wrK
  refine ok_call (P := fun s => s = (0, σ')) (ok_ite (fun q => absurd q (by omega)) (fun _ => ok_ite (fun _ => ok_some rfl) (fun q => absurd rfl q))) ?_
  rintro j25 rfl
  refine ok_call (P := fun s => s = σ') (ok_ite (fun _ => ok_some rfl) (fun q => absurd (Int.le_refl 0) q)) ?_
  rintro s rfl
  refine ok_eqb (m_196n (Int.le_refl 0) s j10) ?_
  refine ok_call (P := fun j => True) (ok_ite (fun _ => ok_some trivial) (fun _ => ok_ite (fun _ => ok_some trivial) (fun _ => ok_ite (fun _ => ok_some trivial) (fun _ => ok_mono (w_j54 W T V1) (fun _ _ => trivial))))) ?_
  intro j54 _
  refine ok_call (P := fun j => j = 2) (ok_ite (fun _ => ok_ite (fun q => absurd rfl q) (fun _ => ok_some rfl)) (fun q => absurd (show (1 : Int) ≠ 0 by omega) q)) ?_
  rintro j rfl
  exact m_w_end V1 VV1 (fun _ _ => rfl) (by omega)
theorem ior_1 {z : Int} (hz : 0 ≤ z ∧ z ≤ 1) : ior 1 z ≠ 0 := by
  have : z = 0 ∨ z = 1 := by omega
  rcases this with q | q <;> rw [q]
  · rw [ior_00.2.2.1]; omega
  · rw [ior_00.2.2.2]; omega
theorem m_w_3 (W : WFA a) (T : mem4 a t x y m) (G : wRg v h) (O : ¬ wOk a t x y m) {σ' : Hp} (V1 : Vw σ' a) (VV1 : ICV σ' a (B + 1)) : Okk (f_M_write σ' t x y m v h) (MR σ' a (B + 61) 3 0) := by
  refine m_write_pre W V1 ?_
  rw [bI_t T, bI_t G, bI_t (P := mem4 a t x y m ∧ ¬ wOk a t x y m) ⟨T, O⟩]
  unfold wrK
  refine ok_call (P := fun s => s = (0, σ')) (ok_ite (fun q => absurd q (by omega)) (fun _ => ok_ite (fun q => absurd q (by omega)) (fun _ => ok_ite (fun _ => ok_some rfl) (fun q => absurd (show (1 : Int) ≠ 0 by omega) q)))) ?_
  rintro j25 rfl
  refine ok_call (P := fun s => s = σ') (ok_ite (fun _ => ok_some rfl) (fun q => absurd (Int.le_refl 0) q)) ?_
  rintro s rfl
  refine ok_eqb (m_196n (Int.le_refl 0) s 1) ?_
  refine ok_call (P := fun j => 0 ≤ j ∧ j ≤ 1) (ok_ite (fun _ => ok_some (by omega)) (fun _ => ok_ite (fun _ => ok_some (by omega)) (fun _ => ok_ite (fun _ => ok_some (by omega)) (fun _ => ok_mono (w_j54 W T V1) (fun z hz => by rw [hz]; exact bI_r _))))) ?_
  intro j54 hj
  refine ok_call (P := fun j => j = 3) (ok_ite (fun _ => ok_ite (fun _ => ok_ite (fun q => absurd q (ior_1 hj)) (fun _ => ok_some rfl)) (fun q => absurd (show (1 : Int) ≠ 0 by omega) q)) (fun q => absurd (show (1 : Int) ≠ 0 by omega) q)) ?_
  rintro j rfl
  exact m_w_end V1 VV1 (fun _ _ => rfl) (by omega)
/-- where the reference has found the facts -/
theorem m_w_sp (W : WFA a) (T : mem4 a t x y m) (G : wRg v h) (O : wOk a t x y m) {σ' : Hp} (V1 : Vw σ' a) {Q : Int × Hp → Prop} (K : ∀ j25 : Int × Hp, j25.1 = (if bI (wOne a m t x y) = 0 then -1 else (wN a m t x y : Int)) → (∀ q : Nat, q ≠ 167 → j25.2 q = σ' q) → (∀ i : Int, 0 ≤ i → i < wN a m t x y → j25.2 167 i = wS a m t x y i) → Okk ((if j25.1 ≤ 0 then some j25.2 else if h ≠ 0 then if h ≠ 1 then (f_M_remains j25.2 j25.1 v).bind fun v33 => some v33 else (f_M_weights j25.2 j25.1 v).bind fun v35 => some v35 else (f_M_equal j25.2 j25.1 v).bind fun v38 => some v38 : Option (Hp)).bind fun j31 => (f_M_write_196 j25 j31 zFuel 0 0).bind fun j52 => (if j25.1 < 0 then some 1 else if (1 : Int) = 0 then some 0 else if j25.1 ≠ 0 then some 0 else (f_M_isPlain j31 0 t).bind fun v56 => if v56 = 0 then some 1 else (f_M_isPlain j31 1 x).bind fun v58 => if v58 = 0 then some 1 else (f_M_isPlain j31 2 y).bind fun v60 => if v60 = 0 then some 1 else if (j31 129 29) ≠ 50 then some 0 else some 1 : Option (Int)).bind fun j54 => (if (1 : Int) ≠ 0 then if (1 : Int) ≠ 0 then if (ior j52.1 j54) = 0 then some 0 else some 3 else some 2 else some 1 : Option (Int)).bind fun j68 => (f_M_holds j31 j68).bind fun v72 => if v72.1 = 0 then (f_M_write_343 j25 zFuel 0 0 v72.2).bind fun j93 => (if j25.1 ≠ 0 then some (j93.1, j93.2.2) else (f_M_put j93.2.2 (-1) t x y m v).bind fun v97 => some (1, v97.2) : Option (Int × Hp)).bind fun j95 => some (j95.1, j95.2) else some ((-1), v72.2)) Q) : Okk (f_M_write σ' t x y m v h) Q := by
  have hc : cin a t x y := ⟨T.1, T.2.1, T.2.2.1⟩
  refine m_write_pre W V1 ?_
  rw [bI_t T, bI_t G, bI_f (P := mem4 a t x y m ∧ ¬ wOk a t x y m) (fun w => w.2 O)]
  unfold wrK
  refine ok_call (P := fun j25 => j25.1 = (if bI (wOne a m t x y) = 0 then -1 else (wN a m t x y : Int)) ∧ (∀ q : Nat, q ≠ 167 → j25.2 q = σ' q) ∧ ∀ i : Int, 0 ≤ i → i < wN a m t x y → j25.2 167 i = wS a m t x y i) (ok_ite (fun q => absurd q (by omega)) (fun _ => ok_ite (fun q => absurd q (by omega)) (fun _ => ok_ite (fun q => absurd rfl q) (fun _ => ok_call (m_spots W hc V1) (fun r hr => ok_some hr))))) ?_
  rintro j25 ⟨k1, k2, k3⟩
  exact K j25 k1 k2 k3
theorem m_w_bad (W : WFA a) (T : mem4 a t x y m) (G : wRg v h) (O : wOk a t x y m) (O1 : ¬ wOne a m t x y) {σ' : Hp} (V1 : Vw σ' a) (VV1 : ICV σ' a (B + 1)) : Okk (f_M_write σ' t x y m v h) (MR σ' a (B + 61) 3 0) := by
  refine m_w_sp W T G O V1 (fun j25 k1 k2 k3 => ?_)
  rw [bI_f O1, if_pos rfl] at k1
  refine ok_call (P := fun s => s = j25.2) (ok_ite (fun _ => ok_some rfl) (fun q => absurd (show j25.1 ≤ 0 by omega) q)) ?_
  rintro s rfl
  refine ok_eqb (m_196n (by omega) j25.2 0) ?_
  refine ok_call (P := fun j => j = 1) (ok_ite (fun _ => ok_some rfl) (fun q => absurd (show j25.1 < 0 by omega) q)) ?_
  rintro j54 rfl
  refine ok_call (P := fun j => j = 3) (ok_ite (fun _ => ok_ite (fun _ => ok_ite (fun q => absurd q (by dsimp only; rw [ior_00.2.1]; omega)) (fun _ => ok_some rfl)) (fun q => absurd (show (1 : Int) ≠ 0 by omega) q)) (fun q => absurd (show (1 : Int) ≠ 0 by omega) q)) ?_
  rintro j rfl
  exact m_w_end V1 VV1 (fun q hq => k2 q (by omega)) (by omega)
theorem m_w_pl (W : WFA a) (T : mem4 a t x y m) (G : wRg v h) (O : wOk a t x y m) (N0 : wN a m t x y = 0) (hp : ¬ ((isP a 0 t ∧ isP a 1 x ∧ isP a 2 y) ∧ a.facts < 50)) {σ' : Hp} (V1 : Vw σ' a) (VV1 : ICV σ' a (B + 1)) : Okk (f_M_write σ' t x y m v h) (MR σ' a (B + 61) 3 0) := by
  have O1 : wOne a m t x y := fun i i0 i1 => by omega
  refine m_w_sp W T G O V1 (fun j25 k1 k2 k3 => ?_)
  rw [bI_t O1, if_neg (by omega), N0] at k1
  have E : scr σ' j25.2 := fun q hq => k2 q (by omega)
  refine ok_call (P := fun s => s = j25.2) (ok_ite (fun _ => ok_some rfl) (fun q => absurd (show j25.1 ≤ 0 by omega) q)) ?_
  rintro s rfl
  refine ok_eqb (m_196n (by omega) j25.2 0) ?_
  refine ok_call (P := fun j => j = 1) (ok_ite (fun q => absurd q (by omega)) (fun _ => ok_ite (fun q => absurd q (by omega)) (fun _ => ok_ite (fun q => absurd (show j25.1 = 0 by omega) q) (fun _ => ok_mono (w_j54 W T (Vw_scr V1 E)) (fun z hz => by rw [hz]; exact bI_t hp))))) ?_
  rintro j54 rfl
  refine ok_call (P := fun j => j = 3) (ok_ite (fun _ => ok_ite (fun _ => ok_ite (fun q => absurd q (by dsimp only; rw [ior_00.2.1]; omega)) (fun _ => ok_some rfl)) (fun q => absurd (show (1 : Int) ≠ 0 by omega) q)) (fun q => absurd (show (1 : Int) ≠ 0 by omega) q)) ?_
  rintro j rfl
  exact m_w_end V1 VV1 E (by omega)
theorem m_w_add (W : WFA a) (T : mem4 a t x y m) (G : wRg v h) (O : wOk a t x y m) (N0 : wN a m t x y = 0) (hp : (isP a 0 t ∧ isP a 1 x ∧ isP a 2 y) ∧ a.facts < 50) {σ' : Hp} (V1 : Vw σ' a) (VV1 : ICV σ' a (B + 1)) (hB : B ≤ 100000) : Okk (f_M_write σ' t x y m v h) (MR σ' (drA (addA a t x y m v) t x y m) (B + 61) 0 1) := by
  have O1 : wOne a m t x y := fun i i0 i1 => by omega
  have NF := w_newF W T G O N0 hp
  have Wb := drA_W (ad_W W NF) t x y m
  have v0 : 1 ≤ σ' 129 38 ∧ σ' 129 38 ≤ B + 1 ∧ _ := VV1 0
  refine m_w_sp W T G O V1 (fun j25 k1 k2 k3 => ?_)
  rw [bI_t O1, if_neg (by omega), N0] at k1
  have E : scr σ' j25.2 := fun q hq => k2 q (by omega)
  have Vj := Vw_scr V1 E
  refine ok_call (P := fun s => s = j25.2) (ok_ite (fun _ => ok_some rfl) (fun q => absurd (show j25.1 ≤ 0 by omega) q)) ?_
  rintro s rfl
  refine ok_eqb (m_196n (by omega) j25.2 0) ?_
  refine ok_call (P := fun j => j = 0) (ok_ite (fun q => absurd q (by omega)) (fun _ => ok_ite (fun q => absurd q (by omega)) (fun _ => ok_ite (fun q => absurd (show j25.1 = 0 by omega) q) (fun _ => ok_mono (w_j54 W T Vj) (fun z hz => by rw [hz]; exact bI_f (fun w => w hp)))))) ?_
  rintro j54 rfl
  refine ok_call (P := fun j => j = 0) (ok_ite (fun _ => ok_ite (fun _ => ok_ite (fun _ => ok_some rfl) (fun q => absurd (by dsimp only; exact ior_00.1) q)) (fun q => absurd (show (1 : Int) ≠ 0 by omega) q)) (fun q => absurd (show (1 : Int) ≠ 0 by omega) q)) ?_
  rintro j rfl
  refine ok_eqb (e_M_holds _ _) ?_
  dsimp only
  rw [if_pos (by simp)]
  refine ok_eqb (m_343n (by omega) _) ?_
  rw [if_neg (fun q => q (show j25.1 = 0 by omega))]
  have e38 : (hset j25.2 129 50 0) 129 38 = σ' 129 38 := by rw [hs_nj (by omega), E 129 (by omega)]
  refine ok_bind (ok_call (e_M_put_add W (Vw_50 Vj 0) NF (by rw [e38]; (first | omega | (unfold r32; omega) | (unfold r64; omega) | (simp only [r32, r64] at *; omega)))) ?_)
  rintro r ⟨r1, r2, r3, r4⟩
  refine ok_some (ok_some ?_)
  exact MR_w VV1 Wb r2 E ⟨r3.1, r3.2.1, r3.2.2.1, r3.2.2.2.1, by have := r3.2.2.2.2; omega⟩ (Or.inr (by rw [r4, e38]; omega)) 1
/-- each is given its share -/
theorem m_w_gv (W : WFA a) (G : wRg v h) (N0 : 0 < wN a m t x y) {σ' : Hp} (V1 : Vw σ' a) {j25 : Int × Hp} (k1 : j25.1 = wN a m t x y) (k2 : ∀ q : Nat, q ≠ 167 → j25.2 q = σ' q) (k3 : ∀ i : Int, 0 ≤ i → i < wN a m t x y → j25.2 167 i = wS a m t x y i) : Okk (if j25.1 ≤ 0 then some j25.2 else if h ≠ 0 then if h ≠ 1 then (f_M_remains j25.2 j25.1 v).bind fun v33 => some v33 else (f_M_weights j25.2 j25.1 v).bind fun v35 => some v35 else (f_M_equal j25.2 j25.1 v).bind fun v38 => some v38 : Option (Hp)) fun s => gch2 j25.2 s ∧ ∀ i : Int, 0 ≤ i → i < wN a m t x y → s 168 i = shr (fun i => a.fv (wS a m t x y i)) (wN a m t x y) v h i := by
  have N1 := wN_50 (m := m) (t := t) (x := x) (y := y) W
  refine ok_ite (fun q => absurd q (by omega)) (fun _ => ?_)
  rw [k1]
  refine m_give (sp := wS a m t x y) ⟨fun i i0 i1 => ?_, ⟨N0, N1⟩, G.1, fun i i0 i1 => ?_⟩ G.2
  · obtain ⟨f, f1, f2, f3, f4, f5, f6⟩ := wS_r W i0 i1
    refine ⟨k3 i i0 i1, by rw [f4]; omega, by rw [f4]; omega, ?_⟩
    rw [k2 154 (by omega)]; exact w_fv V1 _
  · obtain ⟨f, f1, f2, f3, f4, f5, f6⟩ := wS_r W i0 i1
    rw [f4]; exact f6
theorem m_w_rng (W : WFA a) (T : mem4 a t x y m) (G : wRg v h) (O : wOk a t x y m) (O1 : wOne a m t x y) (N0 : 0 < wN a m t x y) (hi : ¬ wIn a m t x y v h) {σ' : Hp} (V1 : Vw σ' a) (VV1 : ICV σ' a (B + 1)) : Okk (f_M_write σ' t x y m v h) (MR σ' a (B + 61) 3 0) := by
  refine m_w_sp W T G O V1 (fun j25 k1 k2 k3 => ?_)
  rw [bI_t O1, if_neg (by omega)] at k1
  refine ok_call (m_w_gv W G N0 V1 k1 k2 k3) ?_
  rintro s ⟨g1, g2⟩
  have E : scr σ' s := fun q hq => (g1 q (by omega) (by omega)).trans (k2 q (by omega))
  refine ok_call (m_196 (wN_50 W) k1 g2) ?_
  intro j52 hj
  rw [hj, bI_t (show ¬ ∀ i : Int, 0 ≤ i → i < wN a m t x y → -1000000 ≤ shr (fun i => a.fv (wS a m t x y i)) (wN a m t x y) v h i ∧ shr (fun i => a.fv (wS a m t x y i)) (wN a m t x y) v h i ≤ 1000000 from hi)]
  refine ok_call (P := fun j => j = 0) (ok_ite (fun q => absurd q (by omega)) (fun _ => ok_ite (fun q => absurd q (by omega)) (fun _ => ok_ite (fun _ => ok_some rfl) (fun q => absurd (show j25.1 ≠ 0 by omega) q)))) ?_
  rintro j54 rfl
  refine ok_call (P := fun j => j = 3) (ok_ite (fun _ => ok_ite (fun _ => ok_ite (fun q => absurd q (ior_1 (by omega))) (fun _ => ok_some rfl)) (fun q => absurd (show (1 : Int) ≠ 0 by omega) q)) (fun q => absurd (show (1 : Int) ≠ 0 by omega) q)) ?_
  rintro j rfl
  exact m_w_end V1 VV1 E (by omega)
theorem m_w_set (W : WFA a) (K : WFW a) (T : mem4 a t x y m) (G : wRg v h) (O : wOk a t x y m) (O1 : wOne a m t x y) (N0 : 0 < wN a m t x y) (hi : wIn a m t x y v h) {σ' : Hp} (V1 : Vw σ' a) (VV1 : ICV σ' a (B + 1)) (hB : B ≤ 100000) : Okk (f_M_write σ' t x y m v h) (MR σ' (pA a (wS a m t x y) (shr (fun i => a.fv (wS a m t x y i)) (wN a m t x y) v h) (wN a m t x y)) (B + 61) 0 (pC a (wS a m t x y) (shr (fun i => a.fv (wS a m t x y i)) (wN a m t x y) v h) (wN a m t x y))) := by
  have v0 : 1 ≤ σ' 129 38 ∧ σ' 129 38 ≤ B + 1 ∧ _ := VV1 0
  have cb := pC_b (a := a) (wS a m t x y) (shr (fun i => a.fv (wS a m t x y i)) (wN a m t x y) v h) (wN a m t x y)
  have PW := pA_W W K (sp := wS a m t x y) (wN a m t x y) hi
  refine m_w_sp W T G O V1 (fun j25 k1 k2 k3 => ?_)
  rw [bI_t O1, if_neg (by omega)] at k1
  refine ok_call (m_w_gv W G N0 V1 k1 k2 k3) ?_
  rintro s ⟨g1, g2⟩
  have E : scr σ' s := fun q hq => (g1 q (by omega) (by omega)).trans (k2 q (by omega))
  refine ok_call (m_196 (wN_50 W) k1 g2) ?_
  intro j52 hj
  rw [hj, bI_f (P := ¬ ∀ i : Int, 0 ≤ i → i < wN a m t x y → -1000000 ≤ shr (fun i => a.fv (wS a m t x y i)) (wN a m t x y) v h i ∧ shr (fun i => a.fv (wS a m t x y i)) (wN a m t x y) v h i ≤ 1000000) (fun w => w hi)]
  refine ok_call (P := fun j => j = 0) (ok_ite (fun q => absurd q (by omega)) (fun _ => ok_ite (fun q => absurd q (by omega)) (fun _ => ok_ite (fun _ => ok_some rfl) (fun q => absurd (show j25.1 ≠ 0 by omega) q)))) ?_
  rintro j54 rfl
  refine ok_call (P := fun j => j = 0) (ok_ite (fun _ => ok_ite (fun _ => ok_ite (fun _ => ok_some rfl) (fun q => absurd ior_00.1 q)) (fun q => absurd (show (1 : Int) ≠ 0 by omega) q)) (fun q => absurd (show (1 : Int) ≠ 0 by omega) q)) ?_
  rintro j rfl
  refine ok_eqb (e_M_holds _ _) ?_
  dsimp only
  rw [if_pos (by simp)]
  have e38 : (hset s 129 50 0) 129 38 = σ' 129 38 := by rw [hs_nj (by omega), E 129 (by omega)]
  refine ok_call (m_343 W K hi (Vw_50 (Vw_scr V1 E) 0) (by rw [e38]; omega) (fun i i0 i1 => by rw [hset_ne (by omega), g1 167 (by omega) (by omega)]; exact k3 i i0 i1) (fun i i0 i1 => by rw [hset_ne (by omega)]; exact g2 i i0 i1) k1) ?_
  rintro r ⟨r1, r2, r3, r4, r5⟩
  rw [if_pos (show j25.1 ≠ 0 by omega)]
  refine ok_bind (ok_some (ok_some ?_))
  rw [r1]
  refine MR_w VV1 PW.1 r2 E r3 ?_ _
  by_cases z : pC a (wS a m t x y) (shr (fun i => a.fv (wS a m t x y i)) (wN a m t x y) v h) (wN a m t x y) = 0
  · exact Or.inl ⟨cb.2.2 z, by rw [r4 z, e38]⟩
  · exact Or.inr (by have := r5 z; omega)
/-- what is thrown, where the class's own cells stand -/
theorem L_er3 {code : Nat} (W : WFA a) (I : IC σ a n B) (hc : code = 3) {x' : Option (Nat × Int × Hp)} (C : Okk x' fun r => r.1 = code ∧ wsc σ r.2.2) : Okk (x'.bind fun v1 => if v1.1 = 0 then grd (0 ≤ (0 : Int) ∧ (0 : Int) < 1) <| some (0, e, (hset v1.2.2 170 0 v1.2.1)) else if v1.1 = 1 then some (1, (e + 1), v1.2.2) else if v1.1 = 2 then some (2, (e + 1), v1.2.2) else if v1.1 = 3 then some (3, (e + 1), v1.2.2) else none) (LR σ e a n (B + 60) 3 0) := by
  refine ok_call C ?_
  rintro r ⟨r1, r2⟩
  rw [if_neg (by omega), if_neg (by omega), if_neg (by omega), if_pos (by omega)]
  exact ok_some ⟨rfl, fun g => absurd g (by omega), Nat.le_refl _, fun q q1 q2 => r2.1 q (by omega), IC_m W (fun _ _ => rfl) (by omega) (IC_w W I r2)⟩
theorem op_write (H : J σ a n B) (hB : B ≤ 100000) (t x y m v h : Int) : OPT σ a n B e (f_L_write σ e t x y m v h) (fun σ' => f_M_write σ' t x y m v h) := by
  obtain ⟨W, K, V, I, VV, h1, h2⟩ := id H
  obtain ⟨R, IK, IW, I9⟩ := IC_r I
  by_cases T : mem4 a t x y m
  · by_cases G : wRg v h
    · by_cases O : wOk a t x y m
      · by_cases O1 : wOne a m t x y
        · by_cases N0 : wN a m t x y = 0
          · by_cases hp : (isP a 0 t ∧ isP a 1 x ∧ isP a 2 y) ∧ a.facts < 50
            · have NF := w_newF W T G O N0 hp
              have Wb := drA_W (ad_W W NF) t x y m
              have Kb : WFW (drA (addA a t x y m v) t x y m) := drA_K (WFW_s K ad_FB.2.2.1 ad_FB.1.1) _ _ _ _
              have hh : Ab.hits (drA (addA a t x y m v) t x y m) = a.hits := sA_h.2.trans ad_FB.2.2.2.2.2.2.2
              refine ⟨0, 1, drA (addA a t x y m v) t x y m, ⟨Wb, Kb, by rw [hh]; exact h1, by rw [hh]; omega⟩, ?_, fun σ' V1 VV1 => m_w_add W T G O N0 hp V1 VV1 hB⟩
              unfold f_L_write
              exact L_ok Wb (c_w_add H T G O N0 hp)
            · refine opt_er H 3 0 ?_ (fun σ' V1 VV1 => m_w_pl W T G O N0 hp V1 VV1)
              unfold f_L_write
              exact L_er3 W I rfl (c_w_pl H T G O N0 hp)
          · have N0' : 0 < wN a m t x y := by omega
            by_cases hi : wIn a m t x y v h
            · have PW := pA_W W K (sp := wS a m t x y) (wN a m t x y) hi
              refine ⟨0, _, pA a (wS a m t x y) (shr (fun i => a.fv (wS a m t x y i)) (wN a m t x y) v h) (wN a m t x y), ⟨PW.1, PW.2.1, by rw [PW.2.2.1]; exact h1, by rw [PW.2.2.1]; omega⟩, ?_, fun σ' V1 VV1 => m_w_set W K T G O O1 N0' hi V1 VV1 hB⟩
              unfold f_L_write
              exact L_ok PW.1 (c_w_set H T G O O1 N0' hi)
            · refine opt_er H 3 0 ?_ (fun σ' V1 VV1 => m_w_rng W T G O O1 N0' hi V1 VV1)
              unfold f_L_write
              exact L_er3 W I rfl (c_w_rng H T G O O1 N0' hi)
        · refine opt_er H 3 0 ?_ (fun σ' V1 VV1 => m_w_bad W T G O O1 V1 VV1)
          unfold f_L_write
          exact L_er3 W I rfl (c_w_bad H T G O O1)
      · refine opt_er H 3 0 ?_ (fun σ' V1 VV1 => m_w_3 W T G O V1 VV1)
        unfold f_L_write
        exact L_er3 W I rfl ⟨_, c_w_3 H T G O, rfl, fun _ _ => rfl, rfl⟩
    · refine opt_er H 2 0 ?_ (fun σ' V1 VV1 => m_w_2 W T G V1 VV1)
      unfold f_L_write
      refine ok_eqb (v := (2, 0, σ)) ?_ ?_
      · unfold f_C_write; apply ok_eq
        refine ok_eqb (nC_y' W R T) ?_
        rw [if_pos rfl]
        by_cases G1 : 0 ≤ v ∧ v ≤ 1000000
        · refine ok_eqb (nR_y G1) ?_
          rw [if_pos rfl]
          refine ok_eqb (nR_n (fun w => G ⟨G1, w⟩)) ?_
          rw [if_neg (by omega)]
          exact ok_grd (by omega) (ok_some rfl)
        · refine ok_eqb (nR_n G1) ?_
          rw [if_neg (by omega)]
          exact ok_grd (by omega) (ok_some rfl)
      · (rw [if_neg (by simp), if_neg (by simp), if_pos rfl]; exact ok_some (LR_er W I (by omega) _ _ (by omega)))
  · refine opt_er H 1 0 ?_ (fun σ' V1 VV1 => m_w_1 W T V1 VV1)
    unfold f_L_write
    refine ok_eqb (v := (1, 0, σ)) ?_ ?_
    · unfold f_C_write; apply ok_eq
      refine ok_eqb (nC_n' W R T) ?_
      rw [if_neg (by simp)]
      exact ok_grd (by simp) (ok_some rfl)
    · (rw [if_neg (by simp), if_pos rfl]; exact ok_some (LR_er W I (by omega) _ _ (by omega)))
end

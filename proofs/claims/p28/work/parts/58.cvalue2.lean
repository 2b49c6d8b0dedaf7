/-! ===== the class's formulas and values ===== -/
section
variable {a : Ab} {m : Int}
theorem RS_p {σ : Hp} {n : Nat} (W : WFA a) (H : RS σ a m n) (i v : Int) : RS (hset σ 119 i v) a m n := RS_c W (fun q hq => hset_ne (by omega)) (fun j _ => by rw [hset_ne (by omega)]) (hset_ne (by omega)) (hset_ne (by omega)) H
theorem rch_p (D : Int) (σ : Hp) {i : Int} (v : Int) (h : D ≤ i) : rch D σ (hset σ 119 i v) := ⟨fun q hq => hset_ne (by omega), fun j _ => by rw [hset_ne (by omega)], fun j hj => hs_nj (by omega)⟩
theorem c_formulaValue_40 (W : WFA a) (K : WFW a) (m0 : 0 ≤ m) (m1 : m < a.measures) {n : Nat} {V : Hp → Int → Int → Option (Int × Hp)} {d t x y : Int} (hV : cVok a m n V (crk a t x y)) (hd : inD d) (h : cin a t x y) (hk : a.kind (12 * d + crd d t x y) = 2) {D P : Int} (D0 : 0 ≤ D) (D1 : D + crk a t x y ≤ 33) {σ0 : Hp} (hP : σ0 (dP d + 11) (crd d t x y) = P) : ∀ (F k : Nat) (σ : Hp), (k : Int) ≤ a.len (12 * d + crd d t x y) → a.len (12 * d + crd d t x y) - k < F → RS σ a m n → rch (10 * D) σ0 σ → stk (σ 119) (10 * D) (frmF (val a m) a d t x y (12 * d + crd d t x y) k) → Okk (f_R_formulaValue_40 V (clq t x y) d D P F (D * 10 + (frmF (val a m) a d t x y (12 * d + crd d t x y) k).length) k σ) fun r => RS r.2.2 a m n ∧ rch (10 * D) σ0 r.2.2 ∧ r.1 = D * 10 + (frmF (val a m) a d t x y (12 * d + crd d t x y) (a.len (12 * d + crd d t x y)).toNat).length ∧ stk (r.2.2 119) (10 * D) (frmF (val a m) a d t x y (12 * d + crd d t x y) (a.len (12 * d + crd d t x y)).toNat) := by
  have hct := crd_t hd h
  have hw := wds K hd hct hk
  have c12 := thr12 W hd hct
  have hck := crk_b W h
  have hdp := dP_b hd
  intro F
  induction F with
  | zero => intro k σ hk1 hF; omega
  | succ F ih =>
    intro k σ hk1 hF M hv hs
    have hl10 := hw.2.1.2.1
    have hf := M.2.1 d (crd d t x y) hd hct hk
    have eP : σ (dP d + 11) (crd d t x y) = P := by rw [hv.1 _ (by omega)]; exact hP
    rw [eP] at hf
    have hPb : 0 ≤ P ∧ 124 < P := by
      rcases hf.1 with e | e <;> omega
    obtain ⟨hlen, hwords⟩ := hf.2
    rw [f_R_formulaValue_40, hlen]
    refine ok_grd hPb.1 (ok_ite (fun g => ok_some ?_) (fun g => ok_grd hPb.1 (ok_grd (by omega) ?_)))
    · have e : (a.len (12 * d + crd d t x y)).toNat = k := by omega
      rw [e]; exact ⟨M, hv, rfl, hs⟩
    have hwd := hwords k (by omega) (by omega)
    have hwk := hw.2.1.2.2 k (by omega)
    have hlow := hw.2.2.2 k (by omega) (by omega)
    have hok := okl_frmF (v := val a m) W K hd h hk (fun t' x' y' h' _ => okv_val W K m0 m1 h') k (by omega)
    have hlen2 : (((frmF (val a m) a d t x y (12 * d + crd d t x y) k).length : Nat) : Int) ≤ k := by
      have : ∀ j : Nat, pilF a (12 * d + crd d t x y) j ≤ j := by
        intro j
        induction j with
        | zero => exact Int.le_refl _
        | succ j ihj =>
          show (if _ then _ else _) ≤ _
          by_cases q : a.what (10 * (12 * d + crd d t x y) + j) < 3
          · rw [if_pos q]; omega
          · rw [if_neg q]; omega
      rw [hok.2]; exact this k
    have ef : frmF (val a m) a d t x y (12 * d + crd d t x y) (k + 1) = wrdV (val a m) a d t x y (10 * (12 * d + crd d t x y) + k) (frmF (val a m) a d t x y (12 * d + crd d t x y) k) := rfl
    rw [hwd.1, hwd.2.1, hwd.2.2]
    have nx : ∀ (p v : Int) (σ' : Hp) (r : List Int), RS σ' a m n → rch (10 * D) σ0 σ' → frmF (val a m) a d t x y (12 * d + crd d t x y) (k + 1) = v :: r → p = D * 10 + (r.length : Int) + 1 → stk (σ' 119) (10 * D) (v :: r) → Okk (grd (r32 ((k : Int) + 1)) <| f_R_formulaValue_40 V (clq t x y) d D P F p ((k : Int) + 1) σ') fun r => RS r.2.2 a m n ∧ rch (10 * D) σ0 r.2.2 ∧ r.1 = D * 10 + (frmF (val a m) a d t x y (12 * d + crd d t x y) (a.len (12 * d + crd d t x y)).toNat).length ∧ stk (r.2.2 119) (10 * D) (frmF (val a m) a d t x y (12 * d + crd d t x y) (a.len (12 * d + crd d t x y)).toNat) := by
      intro p v σ' r q1 q2 q3 q4 q5
      have := ih (k + 1) σ' (by omega) (by omega) q1 q2 (by rw [q3]; exact q5)
      rw [q3, List.length_cons, show D * 10 + ((r.length + 1 : Nat) : Int) = p by omega, show ((k + 1 : Nat) : Int) = (k : Int) + 1 by omega] at this
      exact ok_grd (by (first | omega | (unfold r32; omega) | (unfold r64; omega) | (simp only [r32, r64] at *; omega))) this
    -- a value comes onto the pile
    have push : ∀ (v : Int) (σ' : Hp), frmF (val a m) a d t x y (12 * d + crd d t x y) (k + 1) = v :: frmF (val a m) a d t x y (12 * d + crd d t x y) k → RS σ' a m n → rch (10 * D) σ0 σ' → (∀ j : Int, j < 10 * (D + 1) → σ' 119 j = σ 119 j) → ∀ Q : Int × Hp → Prop, Q (D * 10 + (frmF (val a m) a d t x y (12 * d + crd d t x y) k).length + 1, hset σ' 119 (D * 10 + (frmF (val a m) a d t x y (12 * d + crd d t x y) k).length) v) → True := fun _ _ _ _ _ _ _ _ => trivial
    have fin : ∀ (v : Int) (σ' : Hp), frmF (val a m) a d t x y (12 * d + crd d t x y) (k + 1) = v :: frmF (val a m) a d t x y (12 * d + crd d t x y) k → RS σ' a m n → rch (10 * D) σ0 σ' → (∀ j : Int, j < 10 * (D + 1) → σ' 119 j = σ 119 j) → Okk (grd (r32 ((k : Int) + 1)) <| f_R_formulaValue_40 V (clq t x y) d D P F (D * 10 + ((frmF (val a m) a d t x y (12 * d + crd d t x y) k).length : Int) + 1) ((k : Int) + 1) (hset σ' 119 (D * 10 + ((frmF (val a m) a d t x y (12 * d + crd d t x y) k).length : Int)) v)) fun r => RS r.2.2 a m n ∧ rch (10 * D) σ0 r.2.2 ∧ r.1 = D * 10 + (frmF (val a m) a d t x y (12 * d + crd d t x y) (a.len (12 * d + crd d t x y)).toNat).length ∧ stk (r.2.2 119) (10 * D) (frmF (val a m) a d t x y (12 * d + crd d t x y) (a.len (12 * d + crd d t x y)).toNat) := by
      intro v σ' q1 q2 q3 q4
      refine nx _ v _ _ (RS_p W q2 _ _) (rch_t q3 (rch_p (10 * D) σ' v (by omega)) (Int.le_refl _)) q1 rfl ⟨?_, stk_c _ (fun j j0 j1 => ?_) hs⟩
      · rw [show 10 * D = D * 10 by omega]; exact hs_eq
      · rw [hs_nj (by omega)]; exact q4 j (by omega)
    by_cases e0 : a.what (10 * (12 * d + crd d t x y) + k) = 0
    · have eq1 : frmF (val a m) a d t x y (12 * d + crd d t x y) (k + 1) = a.one (10 * (12 * d + crd d t x y) + k) :: frmF (val a m) a d t x y (12 * d + crd d t x y) k := by rw [ef]; unfold wrdV; rw [if_pos e0]
      rw [if_neg (fun q => q e0)]
      exact ok_bind (ok_grd hPb.1 (ok_grd (by omega) (ok_grd (by omega) (ok_grd (by (first | omega | (unfold r32; omega) | (unfold r64; omega) | (simp only [r32, r64] at *; omega))) (ok_some (fin _ σ eq1 M hv (fun _ _ => rfl)))))))
    · rw [if_pos e0]
      by_cases e3 : 2 < a.what (10 * (12 * d + crd d t x y) + k)
      · rw [if_pos e3]
        have h2 := hwk.2.2.1 (by omega)
        rw [← hok.2] at h2
        refine ok_bind (ok_grd (by (first | omega | (unfold r32; omega) | (unfold r64; omega) | (simp only [r32, r64] at *; omega))) ?_)
        rw [if_neg (by omega)]
        clear push fin
        generalize frmF (val a m) a d t x y (12 * d + crd d t x y) k = st at *
        match st, hs, hok, hlen2, h2, ef with
        | [], _, _, _, h2, _ => simp at h2
        | [q], _, _, _, h2, _ => simp at h2
        | q :: p :: r, hs, hok, hlen2, h2, ef =>
          have eq0 := ef.trans (show wrdV (val a m) a d t x y (10 * (12 * d + crd d t x y) + k) (q :: p :: r) = jnd (a.what (10 * (12 * d + crd d t x y) + k)) p q :: r by
            unfold wrdV
            (rw [if_neg e0, if_neg (by omega), if_neg (by omega)]) <;> rfl)
          simp only [List.length_cons] at *
          have hs1 : σ 119 (10 * D + ((r.length + 1 : Nat) : Int)) = q := hs.1
          have hs2 : σ 119 (10 * D + (r.length : Int)) = p := hs.2.1
          have hs3 : stk (σ 119) (10 * D) r := hs.2.2
          have a1 : D * 10 + ((r.length + 1 + 1 : Nat) : Int) + (-1) = 10 * D + ((r.length + 1 : Nat) : Int) := by omega
          have a2 : 10 * D + ((r.length + 1 : Nat) : Int) - 1 = 10 * D + (r.length : Int) := by omega
          rw [a1, a2, hs1, hs2]
          have oq : okv q := hok.1 q (List.mem_cons_self ..)
          have op : okv p := hok.1 p (List.mem_cons_of_mem _ (List.mem_cons_self ..))
          refine ok_grd (by (first | omega | (unfold r32; omega) | (unfold r64; omega) | (simp only [r32, r64] at *; omega))) (ok_grd (by (first | omega | (unfold r32; omega) | (unfold r64; omega) | (simp only [r32, r64] at *; omega))) (ok_grd (by (first | omega | (unfold r32; omega) | (unfold r64; omega) | (simp only [r32, r64] at *; omega))) (ok_grd (by omega) (ok_grd (by omega) (ok_eqb (e_R_joined _ op oq) (ok_grd (by omega) (ok_some ?_)))))))
          exact nx (10 * D + ((r.length + 1 : Nat) : Int)) (jnd (a.what (10 * (12 * d + crd d t x y) + k)) p q) _ r (RS_p W M _ _) (rch_t hv (rch_p (10 * D) σ _ (by omega)) (Int.le_refl _)) eq0 (by omega) ⟨hs_eq, stk_c r (fun j j0 j1 => hs_nj (by omega)) hs3⟩
      · rw [if_neg e3]
        have e12 : a.what (10 * (12 * d + crd d t x y) + k) = 1 ∨ a.what (10 * (12 * d + crd d t x y) + k) = 2 := by omega
        have h1 := hwk.2.2.2.2.1 e12
        refine ok_bind (ok_grd hPb.1 (ok_grd (by omega) (ok_eqb (r_withMember σ W h hd (by omega)) ?_)))
        refine ok_call (P := fun r => frmF (val a m) a d t x y (12 * d + crd d t x y) (k + 1) = r.1 :: frmF (val a m) a d t x y (12 * d + crd d t x y) k ∧ RS r.2 a m n ∧ rch (10 * (D + 1)) σ r.2) ?_ ?_
        · by_cases e2 : a.what (10 * (12 * d + crd d t x y) + k) = 2
          · rw [if_neg (fun q => q e2)]
            refine ok_call (c_toDate W K m0 m1 hV hd h hk M h1.1 (hlow e12) D0 D1) ?_
            rintro r ⟨r1, r2, r3⟩
            refine ok_some ⟨?_, r2, r3⟩
            rw [ef, r1]; unfold wrdV; rw [if_neg e0, if_neg (by omega), if_pos e2]
          · have e1 : a.what (10 * (12 * d + crd d t x y) + k) = 1 := by omega
            have h2 := hwk.2.2.2.2.2 e1
            rw [if_pos e2]
            refine ok_grd hPb.1 (ok_grd (by omega) (ok_call (c_back W hV hd h hk M h1.1 (hlow e12) h2.1 h2.2 D0 D1) ?_))
            rintro r ⟨r1, r2, r3⟩
            refine ok_some ⟨?_, r2, r3⟩
            rw [ef, r1]; unfold wrdV; rw [if_neg e0, if_pos e1]
        · rintro r ⟨r1, r2, r3⟩
          exact ok_grd (by omega) (ok_grd (by (first | omega | (unfold r32; omega) | (unfold r64; omega) | (simp only [r32, r64] at *; omega))) (ok_some (fin _ r.2 r1 r2 (rch_t hv r3 (by omega)) r3.2.2)))
theorem c_formulaValue (W : WFA a) (K : WFW a) (m0 : 0 ≤ m) (m1 : m < a.measures) {n : Nat} {V : Hp → Int → Int → Option (Int × Hp)} {d t x y : Int} (hV : cVok a m n V (crk a t x y)) (hd : inD d) (h : cin a t x y) (hk : a.kind (12 * d + crd d t x y) = 2) {D : Int} (D0 : 0 ≤ D) (D1 : D + crk a t x y ≤ 33) {σ : Hp} (M : RS σ a m n) : Okk (f_R_formulaValue V σ (clq t x y) d D) fun r => r.1 = frm (val a m) a d t x y ∧ RS r.2 a m n ∧ rch (10 * D) σ r.2 := by
  have hct := crd_t hd h
  have hw := wds K hd hct hk
  have hck := crk_b W h
  have hl := hw.2.1.1
  have hl2 := hw.2.1.2.1
  have hmb := many_b W hd
  have hc0 := hct.1
  have hc1 := hct.2
  have hf := M.2.1 d (crd d t x y) hd hct hk
  have h0 : σ (dP d) 0 = a.many d := icr_d M.1 hd 0
  have hPb : 0 ≤ σ (dP d + 11) (crd d t x y) := by rcases hf.1 with e | e <;> omega
  have hok := okl_frmF (v := val a m) W K hd h hk (fun t' x' y' h' _ => okv_val W K m0 m1 h') (a.len (12 * d + crd d t x y)).toNat (by omega)
  rw [hw.2.2.1] at hok
  have ef : frm (val a m) a d t x y = (frmF (val a m) a d t x y (12 * d + crd d t x y) (a.len (12 * d + crd d t x y)).toNat).headD zNO := rfl
  have h40 := c_formulaValue_40 W K m0 m1 hV hd h hk D0 D1 (σ0 := σ) (P := σ (dP d + 11) (crd d t x y)) rfl zFuel 0 σ hl (by unfold zFuel; omega) M (rch_r _ _) trivial
  simp only [show frmF (val a m) a d t x y (12 * d + crd d t x y) 0 = [] from rfl, List.length_nil, Int.natCast_zero, Int.add_zero] at h40
  unfold f_R_formulaValue
  refine ok_eqb (r_dim σ) (ok_eqb (r_mOfd σ W h hd) (ok_eqb (v := σ (dP d + 11) (crd d t x y)) ((e_D_formulaOf σ _ _).trans (by rw [h0, if_pos ⟨hc0, hc1, by omega⟩])) ?_))
  rw [if_pos hPb]
  refine ok_grd (by (first | omega | (unfold r32; omega) | (unfold r64; omega) | (simp only [r32, r64] at *; omega))) (ok_call h40 ?_)
  rintro r ⟨r1, r2, r3, r4⟩
  rw [r3, ef]
  generalize frmF (val a m) a d t x y (12 * d + crd d t x y) (a.len (12 * d + crd d t x y)).toNat = st at *
  match st, r4, hok with
  | [], _, hok => have := hok.2; simp at this
  | q :: p :: s, _, hok => have := hok.2; simp only [List.length_cons] at this; omega
  | [q], r4, _ =>
    have h4 := r4.1
    simp only [List.length_nil, Int.natCast_zero, Int.add_zero] at h4
    simp only [List.length_cons, List.length_nil]
    rw [if_neg (by omega), show D * 10 = 10 * D by omega, h4]
    exact ok_bind (ok_grd (by omega) (ok_some (ok_some ⟨rfl, r1, r2⟩)))
theorem clq_i (W : WFA a) {t x y t' x' y' : Int} (h : cin a t x y) (h' : cin a t' x' y') (e : clq t x y = clq t' x' y') : t = t' ∧ x = x' ∧ y = y' := by
  have m1 := clq_m W h
  have m2 := clq_m W h'
  rw [e] at m1
  exact ⟨m1.1.symm.trans m2.1, m1.2.1.symm.trans m2.2.1, m1.2.2.symm.trans m2.2.2⟩
theorem c_valueOf (W : WFA a) (K : WFW a) (m0 : 0 ≤ m) (m1 : m < a.measures) {n : Nat} : ∀ (F : Nat) (σ : Hp) (t x y D : Int), RS σ a m n → cin a t x y → crk a t x y + 1 ≤ F → 0 ≤ D → D + crk a t x y ≤ 33 → Okk (f_R_valueOf F σ (clq t x y) D) fun r => r.1 = val a m t x y ∧ RS r.2 a m n ∧ rch (10 * D) σ r.2 := by
  intro F
  induction F with
  | zero => intro σ t x y D M h hF; have := crk_b W h; omega
  | succ F ih =>
    intro σ t x y D M h hF D0 D1
    have hb := clq_b W h
    have hcb := crk_b W h
    rw [f_R_valueOf, if_neg (by omega), if_neg (by omega), if_pos (by omega)]
    refine ok_grd hb (ok_call (P := fun s => RS s a m n ∧ rch (10 * D) σ s ∧ s 118 (clq t x y) = val a m t x y) ?_ ?_)
    · refine ok_ite (fun g => ok_some ⟨M, rch_r _ _, M.2.2.2.2 t x y h g⟩) (fun g => ?_)
      refine ok_eqb (r_S_leading W M.1 h) ?_
      have fin : ∀ (v : Int) (σ' : Hp), v = val a m t x y → RS σ' a m n → rch (10 * D) σ σ' → Okk (grd (0 ≤ clq t x y ∧ clq t x y < 1728) <| grd (0 ≤ clq t x y ∧ clq t x y < 1728) <| some (hset (hset σ' 118 (clq t x y) v) 117 (clq t x y) ((hset σ' 118 (clq t x y) v) 116 4))) fun s => RS s a m n ∧ rch (10 * D) σ s ∧ s 118 (clq t x y) = val a m t x y := by
        intro v σ' q1 q2 q3
        have e4 : (hset σ' 118 (clq t x y) v) 116 4 = σ' 116 4 := by rw [hset_ne (by omega)]
        rw [e4]
        have E1 : ∀ q : Nat, q < 116 ∨ 124 ≤ q → (hset (hset σ' 118 (clq t x y) v) 117 (clq t x y) (σ' 116 4)) q = σ' q := fun q hq => by rw [hset_ne (by omega), hset_ne (by omega)]
        have E2 : (hset (hset σ' 118 (clq t x y) v) 117 (clq t x y) (σ' 116 4)) 116 = σ' 116 := by rw [hset_ne (by omega), hset_ne (by omega)]
        have E3 : (hset (hset σ' 118 (clq t x y) v) 117 (clq t x y) (σ' 116 4)) 119 = σ' 119 := by rw [hset_ne (by omega), hset_ne (by omega)]
        have E4 : (hset (hset σ' 118 (clq t x y) v) 117 (clq t x y) (σ' 116 4)) 118 = (hset σ' 118 (clq t x y) v) 118 := by rw [hset_ne (by omega)]
        have E5 : ∀ c : Int, (hset (hset σ' 118 (clq t x y) v) 117 (clq t x y) (σ' 116 4)) 117 c = if c = clq t x y then σ' 116 4 else σ' 117 c := fun c => by rw [hs_if, hset_ne (by omega : (117 : Nat) ≠ 118)]
        refine ok_grd hb (ok_grd hb (ok_some ⟨⟨ICR_f W (fun q hq => E1 q (by omega)) q2.1, fok_f E1 q2.2.1, ?_, ?_, ?_⟩, rch_t q3 ⟨E1, fun j _ => by rw [E2], fun j _ => by rw [E3]⟩ (Int.le_refl _), ?_⟩))
        · rw [E2]; exact q2.2.2.1
        · intro c c0 c1
          rw [E2, E5]
          by_cases e : c = clq t x y
          · rw [if_pos e]; omega
          · rw [if_neg e]; exact q2.2.2.2.1 c c0 c1
        · intro t' x' y' h' hst
          rw [E2, E5] at hst
          rw [E4]
          by_cases e : clq t' x' y' = clq t x y
          · have hi := clq_i W h' h e
            rw [hi.1, hi.2.1, hi.2.2, hs_eq]; exact q1
          · rw [if_neg e] at hst
            rw [hs_nj e]; exact q2.2.2.2.2 t' x' y' h' hst
        · rw [E4, hs_eq]; exact q1
      rcases lead_d W h with l | l
      · rw [l.1, if_neg (by simp)]
        refine ok_call (P := fun r => r.1 = val a m t x y ∧ RS r.2 a m n ∧ rch (10 * D) σ r.2) ?_ (fun r hr => fin r.1 r.2 hr.1 hr.2.1 hr.2.2)
        refine ok_call (c_plainValue W m0 m1 h l.1 M.2.2.1 M.1) ?_
        rintro r ⟨r1, r2⟩
        exact ok_some ⟨r1, RS_c W (fun q hq => r2.1 q (by omega) (by omega) (by omega) (by omega) (by omega)) r2.2 (r2.1 117 (by omega) (by omega) (by omega) (by omega) (by omega)) (r2.1 118 (by omega) (by omega) (by omega) (by omega) (by omega)) M, fun q hq => r2.1 q (by omega) (by omega) (by omega) (by omega) (by omega), r2.2, fun j _ => by rw [r2.1 119 (by omega) (by omega) (by omega) (by omega) (by omega)]⟩
      · rw [if_pos (by omega)]
        refine ok_call (P := fun r => r.1 = val a m t x y ∧ RS r.2 a m n ∧ rch (10 * D) σ r.2) ?_ (fun r hr => fin r.1 r.2 hr.1 hr.2.1 hr.2.2)
        have hV : cVok a m n (f_R_valueOf F) (crk a t x y) := fun σ' t' x' y' D' M' h' hc d0 d1 => ih σ' t' x' y' D' M' h' (by omega) d0 d1
        rw [val_c W K h l.2.1]
        refine ok_call (c_formulaValue W K m0 m1 hV l.1 h l.2.2 D0 D1 M) ?_
        rintro r ⟨r1, r2, r3⟩
        exact ok_some ⟨r1, r2, r3⟩
    · rintro s ⟨s1, s2, s3⟩
      exact ok_grd hb (ok_some ⟨s3, s1, s2⟩)
theorem c_begins (W : WFA a) {n : Nat} {B : Int} {σ : Hp} (H : ICR σ a) (hf : fok σ a n) (h9 : 0 ≤ σ 116 4 ∧ σ 116 4 ≤ B ∧ ∀ c : Int, 0 ≤ c → c < 1728 → σ 117 c ≤ σ 116 4) (hB : B < 2000000000) (m : Int) : Okk (f_R_begins σ m) fun s => RS s a m n ∧ (∀ q : Nat, q ≠ 116 → s q = σ q) ∧ s 116 4 = σ 116 4 + 1 := by
  unfold f_R_begins
  have e4 : (hset σ 116 3 m) 116 4 = σ 116 4 := hs_nj (by omega)
  rw [e4]
  have E : ∀ q : Nat, q ≠ 116 → (hset (hset σ 116 3 m) 116 4 (σ 116 4 + 1)) q = σ q := fun q hq => by rw [hset_ne hq, hset_ne hq]
  refine ok_grd (by (first | omega | (unfold r32; omega) | (unfold r64; omega) | (simp only [r32, r64] at *; omega))) (ok_some ⟨⟨ICR_f W (fun q hq => E q (by omega)) H, fok_f (fun q hq => E q (by omega)) hf, ?_, ?_, ?_⟩, E, hs_eq⟩)
  · rw [hs_nj (by omega), hs_eq]
  · intro c c0 c1
    rw [hs_eq, E 117 (by omega)]
    have := h9.2.2 c c0 c1
    omega
  · intro t x y h hst
    have hb := clq_b W h
    rw [hs_eq, E 117 (by omega)] at hst
    have := h9.2.2 (clq t x y) hb.1 hb.2
    omega
theorem c_asAsked (W : WFA a) (K : WFW a) (m0 : 0 ≤ m) (m1 : m < a.measures) {n : Nat} {σ : Hp} (M : RS σ a m n) {t x y : Int} (h : cin a t x y) : Okk (f_R_asAsked σ (clq t x y)) fun r => r.1 = @ite _ (seeP a 0 t ∧ seeP a 1 x ∧ seeP a 2 y) (Classical.propDecidable _) (val a m t x y) zNO ∧ RS r.2 a m n ∧ rch 0 σ r.2 := by
  have hcb := crk_b W h
  unfold f_R_asAsked
  refine ok_eqb (r_S_isSeen W M.1 h) ?_
  by_cases g : seeP a 0 t ∧ seeP a 1 x ∧ seeP a 2 y
  · rw [bI_t g, if_neg (by omega), if_pos g]
    refine ok_bind (ok_call (c_valueOf W K m0 m1 zDeep σ t x y 0 M h (by unfold zDeep; omega) (by omega) (by omega)) ?_)
    rintro r ⟨r1, r2, r3⟩
    exact ok_some (ok_some ⟨r1, r2, r3⟩)
  · rw [bI_f g, if_pos rfl, if_neg g]
    exact ok_bind (ok_some (ok_some ⟨rfl, M, rch_r _ _⟩))
end

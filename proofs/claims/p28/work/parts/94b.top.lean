/-! ===== the picked members told anew ===== -/
section
variable {σ : Hp} {a a' b : Ab} {n : Nat} {B : Int} {e : Nat} {d k : Int} {row : Int → Int}
def pcB (a : Ab) (d : Int) (row : Int → Int) (k : Int) : Ab := fun q j => if q = 164 then row j else if q = 165 ∧ j = d then k else a q j
theorem pb_q {q : Nat} (h : q ≠ 164) (h2 : q ≠ 165) : pcB a d row k q = a q := by
  funext j; unfold pcB; rw [if_neg h, if_neg (fun g => h2 g.1)]
theorem pb_p : Ab.pick (pcB a d row k) = row := by
  funext j; show pcB a d row k 164 j = row j; unfold pcB; rw [if_pos rfl]
theorem pb_n (j : Int) : Ab.picks (pcB a d row k) j = if j = d then k else a.picks j := by
  show pcB a d row k 165 j = _
  unfold pcB; rw [if_neg (by omega)]
  exact ifc ⟨fun g => g.2, fun g => ⟨rfl, g⟩⟩ rfl rfl
theorem pb_S : smem a (pcB a d row k) := ⟨fun q hq => pb_q (by omega) (by omega), by show pcB a d row k 129 15 = a 129 15; rw [pb_q (by omega) (by omega)]⟩
theorem pb_M : smea a (pcB a d row k) := ⟨pb_q (by omega) (by omega), pb_q (by omega) (by omega), pb_q (by omega) (by omega), pb_q (by omega) (by omega), by show pcB a d row k 129 23 = a 129 23; rw [pb_q (by omega) (by omega)]⟩
theorem pb_F : sfac a (pcB a d row k) := ⟨fun q h1 h2 => pb_q (by omega) (by omega), by show pcB a d row k 129 29 = a 129 29; rw [pb_q (by omega) (by omega)], by show pcB a d row k 129 35 = a 129 35; rw [pb_q (by omega) (by omega)]⟩
theorem pb_D : swd a (pcB a d row k) := ⟨pb_q (by omega) (by omega), pb_q (by omega) (by omega), pb_q (by omega) (by omega), pb_q (by omega) (by omega)⟩
theorem pb_j (j : Int) : pcB a d row k 129 j = a 129 j := by rw [pb_q (by omega) (by omega)]
theorem pb_V : sval a (pcB a d row k) := ⟨pb_S, pb_M, ⟨pb_j 16, pb_j 17⟩, fun q h1 h2 => pb_q (by omega) (by omega), pb_j 29, fun i _ => ⟨by unfold Ab.what; rw [pb_q (by omega) (by omega)], by unfold Ab.one; rw [pb_q (by omega) (by omega)], by unfold Ab.two; rw [pb_q (by omega) (by omega)]⟩, fun s _ => by unfold Ab.len; rw [pb_q (by omega) (by omega)]⟩
/-- the rows may be so -/
def pbC (a : Ab) (d : Int) (row : Int → Int) (k : Int) : Prop := inD d ∧ 0 ≤ k ∧ k ≤ 12 ∧ (∀ i : Int, 0 ≤ i → i < k → thr a d (row (12 * d + i)) ∧ isP a d (row (12 * d + i))) ∧ ∀ d' i : Int, inD d' → d' ≠ d → 0 ≤ i → i < a.picks d' → row (12 * d' + i) = a.pick (12 * d' + i)
theorem pb_W (W : WFA a) (C : pbC a d row k) : WFA (pcB a d row k) := by
  obtain ⟨hd, k0, k1, hr, ho⟩ := C
  have S := pb_S (a := a) (d := d) (row := row) (k := k)
  have h130 : Ab.many (pcB a d row k) = a.many := S.1 130 (by omega)
  have h131 : Ab.kind (pcB a d row k) = a.kind := S.1 131 (by omega)
  refine WFA_by W S (wfa_8 W (pb_j 16) (pb_j 17)) pb_M pb_F (wfa_k W S pb_M.2.2.2.2 (pb_q (by omega) (by omega)) (pb_j 40)) (fun j hj => ?_) (by show pcB a d row k 140 36 = a 140 36; rw [pb_q (by omega) (by omega)])
  rcases hj with rfl | rfl
  · have h163 : Ab.chos (pcB a d row k) = a.chos := pb_q (by omega) (by omega)
    have := W 15; simp only [wfa, thr, h130, h163] at this ⊢; exact this
  · intro d' hd'
    have g := (show ∀ d : Int, inD d → 0 ≤ a.picks d ∧ a.picks d ≤ 12 ∧ ∀ i : Int, 0 ≤ i → i < a.picks d → thr a d (a.pick (12 * d + i)) ∧ isP a d (a.pick (12 * d + i)) from W 16) d' hd'
    simp only [thr, isP, h130, h131, pb_p, pb_n]
    by_cases q : d' = d
    · rw [if_pos q, q]; exact ⟨k0, k1, hr⟩
    · rw [if_neg q]
      exact ⟨g.1, g.2.1, fun i i0 i1 => by rw [ho d' i hd' q i0 i1]; exact g.2.2 i i0 i1⟩
theorem icd_s2 (S : smem a a') {σ : Hp} {p : Nat} {d : Int} {k : Nat} (G : icd σ a p d k) (k1 : k ≠ 1) (k2 : k ≠ 2) : icd σ a' p d k := by
  have h130 : a'.many = a.many := S.1 130 (by omega)
  have h131 : a'.kind = a.kind := S.1 131 (by omega)
  have h132 : a'.par = a.par := S.1 132 (by omega)
  have h133 : a'.sign = a.sign := S.1 133 (by omega)
  have h134 : a'.set = a.set := S.1 134 (by omega)
  have h135 : a'.order = a.order := S.1 135 (by omega)
  have h136 : a'.hid = a.hid := S.1 136 (by omega)
  have h141 : a'.vd = a.vd := S.1 141 (by omega)
  have h142 : a'.vm = a.vm := S.1 142 (by omega)
  have h143 : a'.vp = a.vp := S.1 143 (by omega)
  have h144 : a'.vt = a.vt := S.1 144 (by omega)
  have h145 : a'.place = a.place := S.1 145 (by omega)
  have hm := S.2
  have P := sm_p S
  have see : ∀ m : Int, seeP a' d m ↔ seeP a d m := fun m => seeP_c P (S.1 136 (by omega)) (S.1 134 (by omega)) (by rw [h131])
  have wg : ∀ m o u : Int, wgt a' d m o u = wgt a d m o u := fun m o u => wgt_c P (S.1 133 (by omega)) (S.1 134 (by omega)) (by rw [h131])
  have nm : ∀ k : Nat, nmv a' d k = nmv a d k := by
    intro k
    induction k with
    | zero => rfl
    | succ k ih => simp only [nmv, ih, h141]
  match k, k1, k2, G with
  | 0, _, _, G => simp only [icd, h130] at G ⊢; exact G
  | 1, k1, _, _ => omega
  | 2, _, k2, _ => omega
  | 3, _, _, G => simp only [icd, thr, h130, h131] at G ⊢; exact G
  | 4, _, _, G => simp only [icd, thr, isP, h130, h131, h132, h133] at G ⊢; exact G
  | 5, _, _, G => simp only [icd, thr, h130, h131, h134] at G ⊢; exact G
  | 6, _, _, G => simp only [icd, thr, h130, h131, h135] at G ⊢; exact G
  | 7, _, _, G => simp only [icd, h136] at G ⊢; exact G
  | 8, _, _, G => simp only [icd, thr, isP, h130, h131, now_c P] at G ⊢; exact G
  | 9, _, _, G => simp only [icd, thr, isP, h130, h131, dep_c P] at G ⊢; exact G
  | 10, _, _, G => simp only [icd, thr, h130, see] at G ⊢; exact G
  | 11, _, _, G => simp only [icd, thr, isP, h130, h131, wg] at G ⊢; exact G
  | 12, _, _, G => simp only [icd, thr, isP, h130, h131, wg, h145] at G ⊢; exact G
  | 13, _, _, G => simp only [icd, h141, h142, h143, h144, nm, hm] at G ⊢; exact G
  | _ + 14, _, _, _ => trivial
theorem pb_ICR (W : WFA a) (C : pbC a d row k) (R : ICR σ a) {s : Hp} (E : ∀ q : Nat, q < 108 → q ≠ dP d → q ≠ dP d + 12 → s q = σ q) (E2 : ∀ j : Int, j ≠ 2 → s (dP d) j = σ (dP d) j) (e2 : s (dP d) 2 = k) (er : ∀ i : Int, 0 ≤ i → i < k → s (dP d + 12) i = row (12 * d + i)) : ICR s (pcB a d row k) := by
  obtain ⟨hd, k0, k1, hr, ho⟩ := C
  have hdp := dP_b hd
  have S := pb_S (a := a) (d := d) (row := row) (k := k)
  have h163 : Ab.chos (pcB a d row k) = a.chos := pb_q (by omega) (by omega)
  have D : ∀ d' : Int, inD d' → ICD s (pcB a d row k) (dP d') d' := by
    intro d' hd'
    have hdp' := dP_b hd'
    by_cases g : d' = d
    · subst g
      have P : pas σ (fun q => if q < 108 then s q else σ q) (dP d') := ⟨fun q q1 q2 => by
        show (if q < 108 then s q else σ q) = σ q
        by_cases z : q < 108
        · rw [if_pos z]; exact E q z q1 q2
        · rw [if_neg z], fun j hj => by
        show (if dP d' < 108 then s (dP d') else σ (dP d')) j = σ (dP d') j
        rw [if_pos (by omega)]; exact E2 j hj⟩
      have Q := pas_R W P (icr_d R hd)
      have X : ∀ q : Nat, q < 108 → (fun q => if q < 108 then s q else σ q : Hp) q = s q := fun q hq => if_pos hq
      have G : ∀ j : Nat, j ≠ 2 → icd s a (dP d') d' j := by
        intro j hj
        have q := Q j hj
        match j, hj, q with
        | 0, _, q => exact icd_c0 (X _ (by omega)).symm q
        | 1, _, q => exact icd_c1 (X _ (by omega)).symm q
        | 2, hj, _ => exact absurd rfl hj
        | 3, _, q => exact icd_c3 (X _ (by omega)).symm q
        | 4, _, q => exact icd_c4 (X _ (by omega)).symm (X _ (by omega)).symm q
        | 5, _, q => exact icd_c5 (X _ (by omega)).symm q
        | 6, _, q => exact icd_c6 (X _ (by omega)).symm q
        | 7, _, q => exact icd_c7 (X _ (by omega)).symm q
        | 8, _, q => exact icd_c8 (X _ (by omega)).symm q
        | 9, _, q => exact icd_c9 (X _ (by omega)).symm q
        | 10, _, q => exact icd_c10 (X _ (by omega)).symm q
        | 11, _, q => exact icd_c11 (X _ (by omega)).symm q
        | 12, _, q => exact icd_c12 (many_b W iD0).2 (fun i hi => (X _ (by omega)).symm) q
        | 13, _, q => exact icd_c13 (X _ (by omega)).symm (X _ (by omega)).symm (X _ (by omega)).symm (X _ (by omega)).symm q
        | _ + 14, _, _ => trivial
      intro j
      by_cases j2 : j = 2
      · subst j2
        show s (dP d') 2 = Ab.picks (pcB a d' row k) d' ∧ ∀ i : Int, 0 ≤ i → i < Ab.picks (pcB a d' row k) d' → s (dP d' + 12) i = Ab.pick (pcB a d' row k) (12 * d' + i)
        rw [pb_n, if_pos rfl, pb_p]
        exact ⟨e2, er⟩
      · by_cases j1 : j = 1
        · subst j1
          have := G 1 (by omega); simp only [icd, h163] at this ⊢; exact this
        · exact icd_s2 S (G j j2) j1 j2
    · have hne := dP_ne hd hd' g
      have H := ICD_f W (σ' := s) (fun q q1 q2 => E q (by omega) (by omega) (by omega)) (icr_d R hd')
      intro j
      by_cases j2 : j = 2
      · subst j2
        have h2 : s (dP d') 2 = a.picks d' ∧ ∀ i : Int, 0 ≤ i → i < a.picks d' → s (dP d' + 12) i = a.pick (12 * d' + i) := H 2
        show s (dP d') 2 = Ab.picks (pcB a d row k) d' ∧ ∀ i : Int, 0 ≤ i → i < Ab.picks (pcB a d row k) d' → s (dP d' + 12) i = Ab.pick (pcB a d row k) (12 * d' + i)
        rw [pb_n, if_neg g, pb_p]
        exact ⟨h2.1, fun i i0 i1 => by rw [ho d' i hd' g i0 i1]; exact h2.2 i i0 i1⟩
      · by_cases j1 : j = 1
        · subst j1
          have := H 1; simp only [icd, h163] at this ⊢; exact this
        · exact icd_s S H j j1 j2
  refine ⟨D 0 iD0, D 1 iD1, D 2 iD2, ICT_s W S (ICT_e (fun q q1 q2 => E q (by omega) (by omega) (by omega)) R.2.2.2.1), ?_, ICM_s pb_M (ICM_e (fun q q1 q2 => E q (by omega) (by omega) (by omega)) R.2.2.2.2.2.1), ICF_s pb_F (ICF_e (fun q q1 q2 => E q (by omega) (by omega) (by omega)) R.2.2.2.2.2.2)⟩
  rw [E 1 (by omega) (by omega) (by omega), show Ab.asNow (pcB a d row k) = a.asNow from pb_j 16, show Ab.leave (pcB a d row k) = a.leave from pb_j 17]
  exact R.2.2.2.2.1
end

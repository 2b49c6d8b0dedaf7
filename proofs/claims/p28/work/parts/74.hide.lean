/-! ===== hiding ===== -/
section
variable {σ : Hp} {a a' b : Ab} {n : Nat} {B : Int} {e : Nat}
/-- all of the members but what is hidden -/
def smh (a a' : Ab) : Prop := (∀ q : Nat, (130 ≤ q ∧ q ≤ 135) ∨ (141 ≤ q ∧ q ≤ 145) → a' q = a q) ∧ a'.moves = a.moves
theorem smh_p (S : smh a a') : sPr a a' := ⟨S.1 132 (by omega), S.1 141 (by omega), S.1 142 (by omega), S.1 143 (by omega), S.1 144 (by omega), S.1 145 (by omega), S.2⟩
theorem smh_t (W : WFA a) (S : smh a a') : sTm a a' := by
  have hm := many_b W iD0
  have h130 : a'.many = a.many := S.1 130 (by omega)
  have h131 : a'.kind = a.kind := S.1 131 (by omega)
  have h132 : a'.par = a.par := S.1 132 (by omega)
  exact ⟨by rw [h130]; exact Int.le_refl _, by rw [h130]; exact hm.2, fun k _ _ => by rw [h131, h132]; exact ⟨rfl, rfl⟩, fun k h1 h2 => by rw [h130] at h2; omega⟩
theorem wfa_sh (W : WFA a) (S : smh a a') (H1 : ∀ d : Int, inD d → a'.hid (12 * d) = 0) (H6 : wfa a' 6) : ∀ k : Nat, k ≤ 7 ∨ k = 9 → wfa a' k := by
  have h130 : a'.many = a.many := S.1 130 (by omega)
  have h131 : a'.kind = a.kind := S.1 131 (by omega)
  have h132 : a'.par = a.par := S.1 132 (by omega)
  have h133 : a'.sign = a.sign := S.1 133 (by omega)
  have h134 : a'.set = a.set := S.1 134 (by omega)
  have h135 : a'.order = a.order := S.1 135 (by omega)
  have h141 : a'.vd = a.vd := S.1 141 (by omega)
  have h142 : a'.vm = a.vm := S.1 142 (by omega)
  have h143 : a'.vp = a.vp := S.1 143 (by omega)
  have h144 : a'.vt = a.vt := S.1 144 (by omega)
  have h145 : a'.place = a.place := S.1 145 (by omega)
  have hm := S.2
  intro k hk
  have H := W k
  match k, hk, H with
  | 0, _, H => simp only [wfa, h130] at H ⊢; exact H
  | 1, _, H => simp only [wfa, h131, h132] at H ⊢; exact fun d hd => ⟨(H d hd).1, H1 d hd, (H d hd).2.2⟩
  | 2, _, H => simp only [wfa, thr, h130, h131] at H ⊢; exact H
  | 3, _, H => simp only [wfa, thr, isP, h130, h131, h132, h133] at H ⊢; exact H
  | 4, _, H => simp only [wfa, thr, isP, h130, h131, h134] at H ⊢; exact H
  | 5, _, H => simp only [wfa, thr, h130, h131, h135] at H ⊢; exact H
  | 6, _, _ => exact H6
  | 7, _, H => simp only [wfa, thr, isP, h130, h131, h141, h142, h143, h144, hm] at H ⊢; exact H
  | 8, hk, _ => omega
  | 9, _, H =>
    obtain ⟨row, c, hc, hp⟩ : ∃ row c, Chn a row c ∧ ∀ i : Int, 0 ≤ i → i < c → a.place (row i) = i := H
    exact ⟨row, c, Chn_t (wT W) (smh_t W S) hc, by rw [h145]; exact hp⟩
  | _ + 10, hk, _ => omega
theorem icd_sh (S : smh a a') {σ : Hp} {p : Nat} {d : Int} (H : ICD σ a p d) : ∀ k : Nat, k ≠ 1 → k ≠ 2 → k ≠ 7 → k ≠ 10 → icd σ a' p d k := by
  have h130 : a'.many = a.many := S.1 130 (by omega)
  have h131 : a'.kind = a.kind := S.1 131 (by omega)
  have h132 : a'.par = a.par := S.1 132 (by omega)
  have h133 : a'.sign = a.sign := S.1 133 (by omega)
  have h134 : a'.set = a.set := S.1 134 (by omega)
  have h135 : a'.order = a.order := S.1 135 (by omega)
  have h141 : a'.vd = a.vd := S.1 141 (by omega)
  have h142 : a'.vm = a.vm := S.1 142 (by omega)
  have h143 : a'.vp = a.vp := S.1 143 (by omega)
  have h144 : a'.vt = a.vt := S.1 144 (by omega)
  have h145 : a'.place = a.place := S.1 145 (by omega)
  have hm := S.2
  have P := smh_p S
  have wg : ∀ m o u : Int, wgt a' d m o u = wgt a d m o u := fun m o u => wgt_c P (S.1 133 (by omega)) (S.1 134 (by omega)) (by rw [h131])
  have nm : ∀ k : Nat, nmv a' d k = nmv a d k := by
    intro k
    induction k with
    | zero => rfl
    | succ k ih => simp only [nmv, ih, h141]
  intro k k1 k2 k7 k10
  have G := H k
  match k, k1, k2, k7, k10, G with
  | 0, _, _, _, _, G => simp only [icd, h130] at G ⊢; exact G
  | 1, k1, _, _, _, _ => omega
  | 2, _, k2, _, _, _ => omega
  | 3, _, _, _, _, G => simp only [icd, thr, h130, h131] at G ⊢; exact G
  | 4, _, _, _, _, G => simp only [icd, thr, isP, h130, h131, h132, h133] at G ⊢; exact G
  | 5, _, _, _, _, G => simp only [icd, thr, h130, h131, h134] at G ⊢; exact G
  | 6, _, _, _, _, G => simp only [icd, thr, h130, h131, h135] at G ⊢; exact G
  | 7, _, _, k7, _, _ => omega
  | 8, _, _, _, _, G => simp only [icd, thr, isP, h130, h131, now_c P] at G ⊢; exact G
  | 9, _, _, _, _, G => simp only [icd, thr, isP, h130, h131, dep_c P] at G ⊢; exact G
  | 10, _, _, _, k10, _ => omega
  | 11, _, _, _, _, G => simp only [icd, thr, isP, h130, h131, wg] at G ⊢; exact G
  | 12, _, _, _, _, G => simp only [icd, thr, isP, h130, h131, wg, h145] at G ⊢; exact G
  | 13, _, _, _, _, G => simp only [icd, h141, h142, h143, h144, nm, hm] at G ⊢; exact G
  | _ + 14, _, _, _, _, _ => trivial
theorem openF_h (W : WFA a) (S : smh a a') {d : Int} (hd : inD d) (hh : ∀ k : Int, 0 ≤ k → k < 12 → a'.hid (12 * d + k) = a.hid (12 * d + k)) : ∀ (F : Nat) (m : Int), thr a d m → isP a d m → (openF a' d F m ↔ openF a d F m)
  | 0, _, _, _ => Iff.rfl
  | F + 1, m, ht, hp => by
    have m12 := thr12 W hd ht
    have e : now a' d m = now a d m := now_c (smh_p S) d m
    constructor
    · intro h m0
      have g := h m0
      have nb := now_b W hd ht hp m0
      rw [hh m m12.1 m12.2, e] at g
      exact ⟨g.1, (openF_h W S hd hh F _ ⟨nb.1, by have := ht.2; omega⟩ nb.2.2).mp g.2⟩
    · intro h m0
      have g := h m0
      have nb := now_b W hd ht hp m0
      rw [hh m m12.1 m12.2, e]
      exact ⟨g.1, (openF_h W S hd hh F _ ⟨nb.1, by have := ht.2; omega⟩ nb.2.2).mpr g.2⟩
theorem see_h (W : WFA a) (S : smh a a') {d m : Int} (hd : inD d) (hh : ∀ k : Int, 0 ≤ k → k < 12 → a'.hid (12 * d + k) = a.hid (12 * d + k)) (ht : thr a d m) : seeP a' d m ↔ seeP a d m := by
  have h131 : a'.kind = a.kind := S.1 131 (by omega)
  have h134 : a'.set = a.set := S.1 134 (by omega)
  have O : ∀ k : Int, thr a d k → isP a d k → (opn a' d k ↔ opn a d k) := fun k h1 h2 => openF_h W S hd hh _ k h1 h2
  have B4 : a.kind (12 * d + m) = 1 → ∀ k : Int, 0 ≤ k → k < 12 → bitP (a.set (12 * d + m)) k → thr a d k ∧ isP a d k := fun h1 k k0 k1 hb => by
    have g := (show ∀ d m : Int, inD d → thr a d m → a.kind (12 * d + m) = 1 → 1 ≤ a.set (12 * d + m) ∧ a.set (12 * d + m) ≤ 4095 ∧ ∀ k : Int, 0 ≤ k → k < 12 → bitP (a.set (12 * d + m)) k → k < m ∧ isP a d k from W 4) d m hd ht h1
    have g2 := g.2.2 k k0 k1 hb
    exact ⟨⟨k0, by have := ht.2; omega⟩, g2.2⟩
  unfold seeP
  rw [h131, h134]
  constructor
  · rintro ⟨g1, g2⟩
    exact ⟨fun h => (O m ht h).mp (g1 h), fun h k k0 k1 hb => (O k (B4 h k k0 k1 hb).1 (B4 h k k0 k1 hb).2).mp (g2 h k k0 k1 hb)⟩
  · rintro ⟨g1, g2⟩
    exact ⟨fun h => (O m ht h).mpr (g1 h), fun h k k0 k1 hb => (O k (B4 h k k0 k1 hb).1 (B4 h k k0 k1 hb).2).mpr (g2 h k k0 k1 hb)⟩
theorem icd_sh2 (S : smh a a') (P : spk a a') {p : Nat} {d : Int} (H : ICD σ a p d) : ∀ k : Nat, k ≠ 7 → k ≠ 10 → icd σ a' p d k := by
  have h163 : a'.chos = a.chos := P.1
  have h164 : a'.pick = a.pick := P.2.1
  have h165 : a'.picks = a.picks := P.2.2
  intro k k7 k10
  by_cases k1 : k = 1
  · subst k1; have := H 1; simp only [icd, h163] at this ⊢; exact this
  · by_cases k2 : k = 2
    · subst k2; have := H 2; simp only [icd, h164, h165] at this ⊢; exact this
    · exact icd_sh S H k k1 k2 k7 k10
theorem ICT_sh (W : WFA a) (S : smh a a') (H : ICT σ a) : ICT σ a' := by
  have h130 : a'.many = a.many := S.1 130 (by omega)
  have h131 : a'.kind = a.kind := S.1 131 (by omega)
  have h145 : a'.place = a.place := S.1 145 (by omega)
  intro k
  match k with
  | 0 =>
    have h0 : Chn a (σ 93) (σ 92 0) ∧ ∀ i : Int, 0 ≤ i → i < σ 92 0 → a.place (σ 93 i) = i := H 0
    exact ⟨Chn_t (wT W) (smh_t W S) h0.1, by rw [h145]; exact h0.2⟩
  | 1 =>
    have h1 : ∀ m : Int, 0 ≤ m → m < 12 → σ 94 m = @ite _ (thr a 0 m ∧ isP a 0 m) (Classical.propDecidable _) (a.place m) (-1) := H 1
    intro m m0 m1
    have e : (thr a' 0 m ∧ isP a' 0 m) ↔ (thr a 0 m ∧ isP a 0 m) := by simp only [thr, isP, h130, h131]
    rw [h145, h1 m m0 m1]
    by_cases g : thr a 0 m ∧ isP a 0 m
    · rw [if_pos g, if_pos (e.mpr g)]
    · rw [if_neg g, if_neg (fun q => g (e.mp q))]
  | _ + 2 => trivial
/-- what the settled dimension comes to -/
theorem c_hid (W : WFA a) (W' : WFA a') (S : smh a a') (P : spk a a') (R : ICR σ a) {d m v : Int} (hd : inD d) (h7 : icd (hset σ (dP d + 10) m v) a' (dP d) d 7) : Okk (f_D_settle (hset σ (dP d + 10) m v) (dP d)) fun s => (∀ q : Nat, q ≠ dP d + 10 → q ≠ dP d + 14 → q ≠ dP d + 15 → s q = σ q) ∧ ICD s a' (dP d) d := by
  have hdp := dP_b hd
  have G := icd_sh2 S P (icr_d R hd)
  have E : ∀ q : Nat, q ≠ dP d + 10 → hset σ (dP d + 10) m v q = σ q := fun q hq => hset_ne hq
  have hmb := many_b W' (Or.inl rfl : inD 0)
  have w1 := W 1 d hd
  have t0 : thr a d 0 := ⟨by omega, by have := (many_b W hd).1; omega⟩
  have p0 : isP a d 0 := by show a.kind (12 * d + 0) = 0; rw [show 12 * d + 0 = 12 * d by omega]; exact w1.1
  have z14 : σ (dP d + 14) 0 = 0 := (show ∀ m : Int, thr a d m → isP a d m → σ (dP d + 14) m = dep a d m from icr_d R hd 9) 0 t0 p0
  have z15 : σ (dP d + 15) 0 = 1 := by
    have g := (show ∀ m : Int, thr a d m → σ (dP d + 15) m = bI (seeP a d m) from icr_d R hd 10) 0 t0
    rw [g]
    refine bI_t ⟨fun _ => trivial, fun h => ?_⟩
    rw [show 12 * d + 0 = 12 * d by omega, w1.1] at h; omega
  have g0 := icd_c0 (E (dP d) (by omega)) (G 0 (by omega) (by omega))
  have g3 := icd_c3 (E (dP d + 5) (by omega)) (G 3 (by omega) (by omega))
  have g5 := icd_c5 (E (dP d + 8) (by omega)) (G 5 (by omega) (by omega))
  have g8 := icd_c8 (E (dP d + 13) (by omega)) (G 8 (by omega) (by omega))
  refine ok_mono (c_settle W' hd g0 g3 g5 h7 g8 (by omega) ⟨by rw [E _ (by omega)]; exact z14, by rw [E _ (by omega)]; exact z15⟩) ?_
  rintro s ⟨s1, s2, s3⟩
  have X : ∀ q : Nat, q ≠ dP d + 10 → q ≠ dP d + 14 → q ≠ dP d + 15 → s q = σ q := fun q q1 q2 q3 => by rw [s1 q q2 q3, E q q1]
  refine ⟨X, fun k => ?_⟩
  match k with
  | 0 => exact icd_c0 (X _ (by omega) (by omega) (by omega)) (G 0 (by omega) (by omega))
  | 1 => exact icd_c1 (X _ (by omega) (by omega) (by omega)) (G 1 (by omega) (by omega))
  | 2 => exact icd_c2 (X _ (by omega) (by omega) (by omega)) (X _ (by omega) (by omega) (by omega)) (G 2 (by omega) (by omega))
  | 3 => exact icd_c3 (X _ (by omega) (by omega) (by omega)) (G 3 (by omega) (by omega))
  | 4 => exact icd_c4 (X _ (by omega) (by omega) (by omega)) (X _ (by omega) (by omega) (by omega)) (G 4 (by omega) (by omega))
  | 5 => exact icd_c5 (X _ (by omega) (by omega) (by omega)) (G 5 (by omega) (by omega))
  | 6 => exact icd_c6 (X _ (by omega) (by omega) (by omega)) (G 6 (by omega) (by omega))
  | 7 => exact icd_c7 (s1 _ (by omega) (by omega)) h7
  | 8 => exact icd_c8 (X _ (by omega) (by omega) (by omega)) (G 8 (by omega) (by omega))
  | 9 => exact s2
  | 10 => exact s3
  | 11 => exact icd_c11 (X _ (by omega) (by omega) (by omega)) (G 11 (by omega) (by omega))
  | 12 => exact icd_c12 (by omega) (fun i hi => X _ (by omega) (by omega) (by omega)) (G 12 (by omega) (by omega))
  | 13 => exact icd_c13 (X _ (by omega) (by omega) (by omega)) (X _ (by omega) (by omega) (by omega)) (X _ (by omega) (by omega) (by omega)) (X _ (by omega) (by omega) (by omega)) (G 13 (by omega) (by omega))
  | _ + 14 => trivial
def hdA (a : Ab) (i v : Int) : Ab := frs (hset a 136 i v)
theorem hd_q {i v : Int} {q : Nat} (h : q ≠ 129) (h2 : q ≠ 136) : hdA a i v q = a q := by unfold hdA; rw [frs_q h, hset_ne h2]
theorem hd_j {i v j : Int} (h : j ≠ 40) : hdA a i v 129 j = a 129 j := by unfold hdA; rw [frs_j h, hset_ne (by omega)]
theorem hd_h {i v : Int} (j : Int) : Ab.hid (hdA a i v) j = if j = i then v else a.hid j := by unfold hdA Ab.hid; rw [frs_q (by omega)]; exact hs_if
theorem hd_S {i v : Int} : smh a (hdA a i v) := ⟨fun q hq => hd_q (by omega) (by omega), hd_j (by omega)⟩
theorem hd_M {i v : Int} : smea a (hdA a i v) := ⟨hd_q (by omega) (by omega), hd_q (by omega) (by omega), hd_q (by omega) (by omega), hd_q (by omega) (by omega), hd_j (by omega)⟩
theorem hd_P {i v : Int} : spk a (hdA a i v) := ⟨hd_q (by omega) (by omega), hd_q (by omega) (by omega), hd_q (by omega) (by omega)⟩
theorem hd_F {i v : Int} : sfac a (hdA a i v) := ⟨fun q h1 h2 => hd_q (by omega) (by omega), hd_j (by omega), hd_j (by omega)⟩
theorem hd_D {i v : Int} : swd a (hdA a i v) := ⟨hd_q (by omega) (by omega), hd_q (by omega) (by omega), hd_q (by omega) (by omega), hd_q (by omega) (by omega)⟩
theorem wfa_fh (W : WFA a) (S : smh a a') (M : smea a a') (F : sfac a a') : ∀ k : Nat, k = 12 ∨ k = 13 ∨ k = 18 ∨ k = 19 → wfa a' k := by
  have h130 : a'.many = a.many := S.1 130 (by omega)
  have h131 : a'.kind = a.kind := S.1 131 (by omega)
  have m1 : a'.mk = a.mk := M.1
  have m5 := M.2.2.2.2
  have h0 : a'.ft = a.ft := F.1 150 (by omega) (by omega)
  have h1 : a'.fa = a.fa := F.1 151 (by omega) (by omega)
  have h2 : a'.fb = a.fb := F.1 152 (by omega) (by omega)
  have h3 : a'.fm = a.fm := F.1 153 (by omega) (by omega)
  have h4 : a'.fv = a.fv := F.1 154 (by omega) (by omega)
  have h5 : a'.st = a.st := F.1 155 (by omega) (by omega)
  have h6 : a'.sa = a.sa := F.1 156 (by omega) (by omega)
  have h7 : a'.sb = a.sb := F.1 157 (by omega) (by omega)
  have h8 : a'.sm = a.sm := F.1 158 (by omega) (by omega)
  have h9 : a'.sv = a.sv := F.1 159 (by omega) (by omega)
  have hf := F.2.1
  have hs := F.2.2
  intro k hk
  rcases hk with rfl | rfl | rfl | rfl
  · have := W 12; simp only [wfa, thr, isP, h130, h131, m1, m5, h0, h1, h2, h3, h4, hf] at this ⊢; exact this
  · have := W 13; simp only [wfa, thr, isP, h130, h131, m1, m5, h5, h6, h7, h8, h9, hs] at this ⊢; exact this
  · have := W 18; simp only [wfa, h0, h1, h2, h3, hf] at this ⊢; exact this
  · have := W 19; simp only [wfa, h5, h6, h7, h8, hs] at this ⊢; exact this
theorem wfa_ph (W : WFA a) (S : smh a a') (P : spk a a') : ∀ k : Nat, k = 15 ∨ k = 16 → wfa a' k := by
  have h130 : a'.many = a.many := S.1 130 (by omega)
  have h131 : a'.kind = a.kind := S.1 131 (by omega)
  have h163 : a'.chos = a.chos := P.1
  have h164 : a'.pick = a.pick := P.2.1
  have h165 : a'.picks = a.picks := P.2.2
  intro k hk
  rcases hk with rfl | rfl
  · have := W 15; simp only [wfa, thr, h130, h163] at this ⊢; exact this
  · have := W 16; simp only [wfa, thr, isP, h130, h131, h164, h165] at this ⊢; exact this
theorem WFW_sh (K : WFW a) (S : swd a a') (M : smh a a') : WFW a' := by
  have h130 : a'.many = a.many := M.1 130 (by omega)
  have h131 : a'.kind = a.kind := M.1 131 (by omega)
  have h1 : a'.what = a.what := S.1
  have h2 : a'.one = a.one := S.2.1
  have h4 : a'.len = a.len := S.2.2.2
  intro k
  have G := K k
  match k, G with
  | 0, G => simp only [wfw] at G ⊢; exact (wrdOk_c S 36).mpr G
  | 1, G => simp only [wfw, thr, h130, h131, h1, h2, h4, wrdOk_c S, pilF_c S.1] at G ⊢; exact G
  | _ + 2, _ => trivial
theorem ICW_sh (S : swd a a') (M : smh a a') {σ : Hp} {n : Nat} (H : ICW σ a n) : ICW σ a' n := by
  have h130 : a'.many = a.many := M.1 130 (by omega)
  have h131 : a'.kind = a.kind := M.1 131 (by omega)
  have h1 : a'.what = a.what := S.1
  have h2 : a'.one = a.one := S.2.1
  have h3 : a'.two = a.two := S.2.2.1
  have h4 : a'.len = a.len := S.2.2.2
  intro k
  have G := H k
  match k, G with
  | 0, G => simp only [icw, fHd, h1, h2, h3, h4, pilF_c S.1] at G ⊢; exact G
  | 1, G => simp only [icw, fHd, thr, h130, h131, h1, h2, h3, h4] at G ⊢; exact G
  | 2, G => exact G
  | _ + 3, _ => trivial
theorem hd_W (W : WFA a) {d m v : Int} (hd : inD d) (ht : thr a d m) (hp : isP a d m) (m0 : 0 < m) (hv : v = 0 ∨ v = 1) : WFA (hdA a (12 * d + m) v) := by
  have S := hd_S (a := a) (i := 12 * d + m) (v := v)
  have m12 := thr12 W hd ht
  have h6 : ∀ d m : Int, inD d → 0 ≤ m → m < 12 → (a.hid (12 * d + m) = 0 ∨ a.hid (12 * d + m) = 1) ∧ (¬ (thr a d m ∧ isP a d m) → a.hid (12 * d + m) = 0) ∧ (a.many d ≤ m → a.kind (12 * d + m) = 0) := W 6
  have h130 : Ab.many (hdA a (12 * d + m) v) = a.many := S.1 130 (by omega)
  have h131 : Ab.kind (hdA a (12 * d + m) v) = a.kind := S.1 131 (by omega)
  refine WFA_all (wfa_sh W S (fun d' hd' => ?_) (fun d' m' hd' q0 q1 => ?_)) (wfa_8 W (hd_j (by omega)) (hd_j (by omega))) (wfa_m W hd_M) (wfa_fh W S hd_M hd_F) (wfa_k0 (frs_0 _)) (wfa_ph W S hd_P) (wfa_17 W (by unfold Ab.len; rw [hd_q (by omega) (by omega)]))
  · rw [hd_h, if_neg (by omega)]; exact (W 1 d' hd').2.1
  · have g := h6 d' m' hd' q0 q1
    simp only [thr, isP, h130, h131] at g ⊢
    rw [hd_h]
    by_cases e : 12 * d' + m' = 12 * d + m
    · have e1 : d' = d := by omega
      have e2 : m' = m := by omega
      rw [if_pos e]
      subst e1; subst e2
      exact ⟨hv, fun q => absurd ⟨ht, hp⟩ q, g.2.2⟩
    · rw [if_neg e]; exact g
theorem op_hide (H : J σ a n B) (hB : B ≤ 100000) (d m x : Int) (hx : x = 0 ∨ x = 1) : OPT σ a n B e (fun code v b => TT a (((inD d ∧ thr a d m) ∧ m ≠ 0) ∧ isP a d m) (fun _ b => TKs a b) code v b) (f_L_hide σ e d m x) := by
  obtain ⟨W, K, V, I, VV, h1, h2⟩ := id H
  obtain ⟨R, IK, IW, I9⟩ := IC_r I
  have hh := hit_e IK
  have h6 : ∀ d m : Int, inD d → 0 ≤ m → m < 12 → (a.hid (12 * d + m) = 0 ∨ a.hid (12 * d + m) = 1) ∧ (¬ (thr a d m ∧ isP a d m) → a.hid (12 * d + m) = 0) ∧ (a.many d ≤ m → a.kind (12 * d + m) = 0) := W 6
  by_cases h : (inD d ∧ thr a d m) ∧ m ≠ 0
  · obtain ⟨⟨hd, ht⟩, m0⟩ := h
    have m12 := thr12 W hd ht
    have hdp := dP_b hd
    have hd' := inD_b hd
    have G := icr_d R hd
    have e0 : σ (dP d) 0 = a.many d := G 0
    have e5 : σ (dP d + 5) m = a.kind (12 * d + m) := (show ∀ m : Int, thr a d m → σ (dP d + 5) m = a.kind (12 * d + m) from G 3) m ht
    have e10 : ∀ m : Int, 0 ≤ m → m < 12 → σ (dP d + 10) m = a.hid (12 * d + m) := G 7
    have hv := h6 d m hd m12.1 m12.2
    by_cases hp : isP a d m
    · have W' := hd_W W hd ht hp (by omega) hx
      have S := hd_S (a := a) (i := 12 * d + m) (v := x)
      have eh : Ab.hits (hdA a (12 * d + m) x) = a.hits := hd_j (by omega)
      refine ⟨0, a.hid (12 * d + m), hdA a (12 * d + m) x, ⟨W', WFW_sh K hd_D S, by rw [eh]; exact h1, by rw [eh]; omega⟩, (TT_0 (⟨fun _ _ => congrFun (hd_q (by omega) (by omega)) _, hd_j (by omega), eh⟩)), ?_⟩
      · have C : Okk (f_C_hide σ d m x) fun r => r.1 = 0 ∧ r.2.1 = a.hid (12 * d + m) ∧ (∀ q : Nat, 129 ≤ q → (q ≤ 169 ∨ 1048576 ≤ q) → r.2.2 q = σ q) ∧ IC r.2.2 (hdA a (12 * d + m) x) n (B + 60) := by
          unfold f_C_hide
          refine ok_eqb (nX_y hd) ?_
          rw [if_pos rfl]
          refine ok_eqb (nM_y W hd (G 0) ht) ?_
          rw [if_pos rfl, if_pos m0]
          refine ok_eqb (e_D_isPlain σ (dP d) m) ?_
          rw [bI_t ⟨m12.1, by rw [e0]; exact ht.2, m12.2, by rw [e5]; exact hp⟩]
          refine ok_eqb need1 ?_
          rw [if_pos rfl]
          unfold f_D_setHidden
          refine ok_bind (ok_eqb (e_D_has σ (dP d) m) ?_)
          rw [bI_t ⟨m12.1, by rw [e0]; exact ht.2, m12.2⟩, if_pos (by omega)]
          refine ok_grd ⟨m12.1, m12.2⟩ (ok_grd ⟨m12.1, m12.2⟩ (ok_grd (by omega) ?_))
          have h7 : icd (hset σ (dP d + 10) m x) (hdA a (12 * d + m) x) (dP d) d 7 := by
            intro k k0 k1
            rw [hs_if, hd_h]
            by_cases e : k = m
            · rw [if_pos e, if_pos (by omega)]
            · rw [if_neg e, if_neg (by omega)]; exact e10 k k0 k1
          refine ok_call (c_hid W W' S hd_P R hd h7) ?_
          rintro s ⟨s1, s2⟩
          rw [e10 m m12.1 m12.2]
          refine ok_grd (by omega) (ok_some (ok_eqb (e_K_dropAll _) ?_))
          dsimp only
          refine ok_grd (by omega) (ok_some ⟨rfl, rfl, fun q q1 q2 => ?_, ?_⟩)
          · dsimp only; rw [hset_ne (by omega)]; exact s1 q (by omega) (by omega) (by omega)
          · dsimp only
            have E : ∀ q : Nat, q ≠ dP d + 10 → q ≠ dP d + 14 → q ≠ dP d + 15 → q ≠ 108 → hset s 108 0 0 q = σ q := fun q q1 q2 q3 q4 => by rw [hset_ne q4]; exact s1 q q1 q2 q3
            have D : ∀ d' : Int, inD d' → ICD (hset s 108 0 0) (hdA a (12 * d + m) x) (dP d') d' := by
              intro d' hd''
              have hdp' := dP_b hd''
              by_cases g : d' = d
              · subst g
                exact ICD_f W' (fun q q1 q2 => hset_ne (by omega)) s2
              · have hne : dP d' ≠ dP d := by
                  unfold dP
                  rcases hd with rfl | rfl | rfl <;> rcases hd'' with rfl | rfl | rfl <;> simp at g ⊢
                refine ICD_f W' (σ := σ) (fun q q1 q2 => E q (by omega) (by omega) (by omega) (by omega)) (fun k => ?_)
                have G' := icr_d R hd''
                have hq : ∀ k : Int, 0 ≤ k → k < 12 → Ab.hid (hdA a (12 * d + m) x) (12 * d' + k) = a.hid (12 * d' + k) := fun k k0 k1 => by
                  rw [hd_h, if_neg (by omega)]
                have h130 : Ab.many (hdA a (12 * d + m) x) = a.many := S.1 130 (by omega)
                by_cases k7 : k = 7
                · subst k7
                  intro k k0 k1
                  rw [hq k k0 k1]
                  exact (show ∀ m : Int, 0 ≤ m → m < 12 → σ (dP d' + 10) m = a.hid (12 * d' + m) from G' 7) k k0 k1
                · by_cases k10 : k = 10
                  · subst k10
                    intro k hk
                    simp only [thr, h130] at hk
                    rw [(show ∀ m : Int, thr a d' m → σ (dP d' + 15) m = bI (seeP a d' m) from G' 10) k hk]
                    exact (bI_iff (see_h W S hd'' hq hk)).symm
                  · exact icd_sh2 S hd_P G' k k7 k10
            refine IC_mk ⟨D 0 iD0, D 1 iD1, D 2 iD2, ICT_e (fun q q1 q2 => E q (by omega) (by omega) (by omega) (by omega)) (ICT_sh W S R.2.2.2.1), ?_, ICM_s hd_M (ICM_e (fun q q1 q2 => E q (by omega) (by omega) (by omega) (by omega)) R.2.2.2.2.2.1), ICF_s hd_F (ICF_e (fun q q1 q2 => E q (by omega) (by omega) (by omega) (by omega)) R.2.2.2.2.2.2)⟩ (ICK_0 hs_eq ?_ (frs_0 _)) (ICW_sh hd_D S (ICW_f (fun q hq => E q (by omega) (by omega) (by omega) (by omega)) IW)) ?_
            · rw [E 1 (by omega) (by omega) (by omega) (by omega), show Ab.asNow (hdA a (12 * d + m) x) = a.asNow from hd_j (by omega), show Ab.leave (hdA a (12 * d + m) x) = a.leave from hd_j (by omega)]
              exact R.2.2.2.2.1
            · rw [hs_nj (by omega), s1 108 (by omega) (by omega) (by omega), eh]; exact hh.2
            · unfold ic9 at I9 ⊢; rw [E 116 (by omega) (by omega) (by omega) (by omega), E 117 (by omega) (by omega) (by omega) (by omega)]; exact ⟨I9.1, by omega, I9.2.2⟩
        unfold f_L_hide
        refine ok_call C ?_
        rintro r ⟨r1, r2, r3, r4⟩
        rw [if_pos r1, r2]
        have hr : (if a.hid (12 * d + m) = 0 then some 0 else some 1 : Option Int) = some (a.hid (12 * d + m)) := by
          rcases hv.1 with g | g <;> rw [g] <;> rfl
        rw [hr]
        refine ok_bind (ok_some (ok_grd (by omega) (ok_some ⟨rfl, fun _ => (by show hset r.2.2 170 0 (a.hid (12 * d + m)) 170 0 = _; exact hs_eq), Nat.le_succ _, fun q q1 q2 => ?_, IC_m W' (fun q hq => hset_ne (by omega)) (Int.le_refl _) r4⟩)))
        show hset r.2.2 170 0 (a.hid (12 * d + m)) q = σ q
        rw [hset_ne (by omega)]; exact r3 q q1 q2
    · refine opt_er H 2 0 (TT_e ⟨by omega, by omega⟩ (fun q => hp q.2)) ?_
      · unfold f_L_hide
        refine ok_eqb (v := (3, 0, σ)) ?_ ?_
        · unfold f_C_hide; apply ok_eq
          refine ok_eqb (nX_y hd) ?_
          rw [if_pos rfl]
          refine ok_eqb (nM_y W hd (G 0) ht) ?_
          rw [if_pos rfl, if_pos m0]
          refine ok_eqb (e_D_isPlain σ (dP d) m) ?_
          rw [bI_f (fun g => hp (by rw [e5] at g; exact g.2.2.2))]
          refine ok_eqb need0 ?_
          rw [if_neg (by omega)]
          exact ok_grd (by omega) (ok_some rfl)
        · (rw [if_neg (by simp), if_neg (by simp), if_pos rfl]; exact ok_some (LR_er W I (by omega) _ _ (by omega)))
  · refine opt_er H 1 0 (TT_e ⟨by omega, by omega⟩ (fun q => h q.1)) ?_
    · unfold f_L_hide
      refine ok_eqb (v := (1, 0, σ)) ?_ ?_
      · unfold f_C_hide; apply ok_eq
        by_cases hd : inD d
        · refine ok_eqb (nX_y hd) ?_
          rw [if_pos rfl]
          by_cases ht : thr a d m
          · refine ok_eqb (nM_y W hd (icr_d R hd 0) ht) ?_
            rw [if_pos rfl, if_neg (fun g => h ⟨⟨hd, ht⟩, g⟩)]
            exact ok_some rfl
          · refine ok_eqb (nM_n (icr_d R hd 0) ht) ?_
            rw [if_neg (by omega)]
            exact ok_grd (by omega) (ok_some rfl)
        · refine ok_eqb (nX_n hd) ?_
          rw [if_neg (by simp)]
          exact ok_grd (by simp) (ok_some rfl)
      · (rw [if_neg (by simp), if_pos rfl]; exact ok_some (LR_er W I (by omega) _ _ (by omega)))
end

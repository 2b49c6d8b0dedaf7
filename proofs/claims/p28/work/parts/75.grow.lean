/-! ===== where members or moves come ===== -/
section
variable {σ : Hp} {a a' b : Ab} {n : Nat} {B : Int} {e : Nat}
/-- a' has the members that a has, and no calculated ones more -/
def grw (a a' : Ab) : Prop := ∀ d : Int, inD d → a.many d ≤ a'.many d ∧ (∀ k : Int, thr a d k → a'.kind (12 * d + k) = a.kind (12 * d + k)) ∧ ∀ k : Int, thr a' d k → a'.kind (12 * d + k) = 2 → thr a d k
/-- the same but for the calculated ones -/
def grz (a a' : Ab) : Prop := ∀ d : Int, inD d → a.many d ≤ a'.many d ∧ ∀ k : Int, thr a d k → a'.kind (12 * d + k) = a.kind (12 * d + k)
theorem gr_z (G : grw a a') : grz a a' := fun d hd => ⟨(G d hd).1, (G d hd).2.1⟩
theorem gr_t (G : grz a a') {d m : Int} (hd : inD d) (h : thr a d m) : thr a' d m := ⟨h.1, by have := (G d hd).1; have := h.2; omega⟩
theorem gr_p (G : grz a a') {d m : Int} (hd : inD d) (h : thr a d m) (hp : isP a d m) : isP a' d m := by
  unfold isP; rw [(G d hd).2 m h]; exact hp
theorem wfa_fg (W : WFA a) (G : grz a a') (M : smea a a') (F : sfac a a') : ∀ k : Nat, k = 12 ∨ k = 13 ∨ k = 18 ∨ k = 19 → wfa a' k := by
  have m1 : a'.mk = a.mk := M.1
  have m5 := M.2.2.2.2
  have h0 : a'.ft = a.ft := F.1 150 (by omega) (by omega)
  have h1 : a'.fa = a.fa := F.1 151 (by omega) (by omega)
  have h2 : a'.fb = a.fb := F.1 152 (by omega) (by omega)
  have h3 : a'.fm = a.fm := F.1 153 (by omega) (by omega)
  have h4 : a'.fv = a.fv := F.1 154 (by omega) (by omega)
  have h5 : a'.st = a.st := F.1 155 (by omega) (by omega)
  have h6 : a'.sa = a.sa := F.1 156 (by omega) (by omega)
  have h7 : a'.sb = a.sb := F.1 157 (by omega) (by omega)
  have h8 : a'.sm = a.sm := F.1 158 (by omega) (by omega)
  have h9 : a'.sv = a.sv := F.1 159 (by omega) (by omega)
  have hf := F.2.1
  have hs := F.2.2
  intro k hk
  rcases hk with rfl | rfl | rfl | rfl
  · have := W 12
    simp only [wfa, m1, m5, h0, h1, h2, h3, h4, hf] at this ⊢
    refine ⟨this.1, this.2.1, fun f f0 f1 => ?_⟩
    obtain ⟨g1, g2, g3, g4, g5, g6, g7⟩ := this.2.2 f f0 f1
    exact ⟨gr_t G iD0 g1, gr_p G iD0 g1 g2, gr_t G iD1 g3, gr_p G iD1 g3 g4, gr_t G iD2 g5, gr_p G iD2 g5 g6, g7⟩
  · have := W 13
    simp only [wfa, m1, m5, h5, h6, h7, h8, h9, hs] at this ⊢
    refine ⟨this.1, this.2.1, fun f f0 f1 => ?_⟩
    obtain ⟨g1, g2, g3, g4, g5, g6, g7⟩ := this.2.2 f f0 f1
    exact ⟨gr_t G iD0 g1, gr_p G iD0 g1 g2, gr_t G iD1 g3, gr_p G iD1 g3 g4, gr_t G iD2 g5, gr_p G iD2 g5 g6, g7⟩
  · have := W 18; simp only [wfa, h0, h1, h2, h3, hf] at this ⊢; exact this
  · have := W 19; simp only [wfa, h5, h6, h7, h8, hs] at this ⊢; exact this
theorem wfa_pg (W : WFA a) (G : grz a a') (P : spk a a') : ∀ k : Nat, k = 15 ∨ k = 16 → wfa a' k := by
  have h163 : a'.chos = a.chos := P.1
  have h164 : a'.pick = a.pick := P.2.1
  have h165 : a'.picks = a.picks := P.2.2
  intro k hk
  rcases hk with rfl | rfl
  · intro d hd
    rw [h163]; exact gr_t G hd (W 15 d hd)
  · intro d hd
    rw [h165, h164]
    have g := (show ∀ d : Int, inD d → 0 ≤ a.picks d ∧ a.picks d ≤ 12 ∧ ∀ i : Int, 0 ≤ i → i < a.picks d → thr a d (a.pick (12 * d + i)) ∧ isP a d (a.pick (12 * d + i)) from W 16) d hd
    exact ⟨g.1, g.2.1, fun i i0 i1 => ⟨gr_t G hd (g.2.2 i i0 i1).1, gr_p G hd (g.2.2 i i0 i1).1 (g.2.2 i i0 i1).2⟩⟩
theorem WFW_g (K : WFW a) (G : grw a a') (S : swd a a') : WFW a' := by
  have h1 : a'.what = a.what := S.1
  have h2 : a'.one = a.one := S.2.1
  have h4 : a'.len = a.len := S.2.2.2
  intro k
  match k with
  | 0 => have := K 0; simp only [wfw] at this ⊢; exact (wrdOk_c S 36).mpr this
  | 1 =>
    have g := K 1
    simp only [wfw] at g
    simp only [wfw, h1, h2, h4, wrdOk_c S, pilF_c S.1]
    intro d m hd ht hk
    have ht' := (G d hd).2.2 m ht hk
    exact g d m hd ht' (by rw [← (G d hd).2.1 m ht']; exact hk)
  | _ + 2 => trivial
theorem ICW_g (G : grw a a') (S : swd a a') (H : ICW σ a n) : ICW σ a' n := by
  have h1 : a'.what = a.what := S.1
  have h2 : a'.one = a.one := S.2.1
  have h3 : a'.two = a.two := S.2.2.1
  have h4 : a'.len = a.len := S.2.2.2
  intro k
  match k with
  | 0 => have g := H 0; simp only [icw, fHd, h1, h2, h3, h4, pilF_c S.1] at g ⊢; exact g
  | 1 =>
    have g := H 1
    simp only [icw, fHd] at g
    simp only [icw, fHd, h1, h2, h3, h4]
    intro d m hd ht hk
    have ht' := (G d hd).2.2 m ht hk
    exact g d m hd ht' (by rw [← (G d hd).2.1 m ht']; exact hk)
  | 2 => exact H 2
  | _ + 3 => trivial
/-- what was told, out of all -/
theorem told_of (W : WFA a) {p : Nat} {d : Int} (hd : inD d) (H : ICD σ a p d) : told σ a p d := by
  have w1 := W 1 d hd
  have t0 : thr a d 0 := ⟨by omega, by have := (many_b W hd).1; omega⟩
  have p0 : isP a d 0 := by show a.kind (12 * d + 0) = 0; rw [show 12 * d + 0 = 12 * d by omega]; exact w1.1
  refine ⟨H 0, H 1, H 2, H 3, H 4, H 5, H 6, H 7, H 13, ?_, ?_, ?_⟩
  · have := (show ∀ m : Int, thr a d m → isP a d m → σ (p + 13) m = if m = 0 then -1 else now a d m from H 8) 0 t0 p0
    rw [this, if_pos rfl]
  · exact (show ∀ m : Int, thr a d m → isP a d m → σ (p + 14) m = dep a d m from H 9) 0 t0 p0
  · rw [(show ∀ m : Int, thr a d m → σ (p + 15) m = bI (seeP a d m) from H 10) 0 t0]
    refine bI_t ⟨fun _ => trivial, fun h => ?_⟩
    rw [show 12 * d + 0 = 12 * d by omega, w1.1] at h; omega
/-- the class, where it weighs anew and keeps nothing -/
theorem c_str (I : IC σ a n B) (W' : WFA a') (G : grw a a') (M : smea a a') (F : sfac a a') (D : swd a a') (h4 : a'.asNow = a.asNow ∧ a'.leave = a.leave) (hk : a'.keeps = 0) (hh : a'.hits = a.hits) {s : Hp} (t0 : told s a' 2 0) (t1 : told s a' 32 1) (t2 : told s a' 62 2) (hT : ICT s a') (E : ∀ q : Nat, q ≤ 1 ∨ q = 13 ∨ q = 43 ∨ q = 73 ∨ 95 ≤ q → s q = σ q) {B' : Int} (hB : B ≤ B') : Okk (f_S_weigh s) fun u => (∀ q : Nat, 95 ≤ q → u q = σ q) ∧ IC (hset u 108 0 0) a' n B' := by
  obtain ⟨R, IK, IW, I9⟩ := IC_r I
  refine ok_mono (c_sweigh W' t0 t1 t2 hT) ?_
  rintro u ⟨u0, u1, u2, u3⟩
  have X : ∀ q : Nat, q ≤ 1 ∨ q = 13 ∨ q = 43 ∨ q = 73 ∨ 95 ≤ q → u q = σ q := fun q hq => by rw [u3 q (by omega) (by omega) (by omega), E q hq]
  have Y : ∀ q : Nat, q ≠ 108 → hset u 108 0 0 q = u q := fun q hq => hset_ne hq
  refine ⟨fun q hq => X q (by omega), IC_mk ⟨ICD_f W' (fun q q1 q2 => Y q (by omega)) u0, ICD_f W' (fun q q1 q2 => Y q (by omega)) u1, ICD_f W' (fun q q1 q2 => Y q (by omega)) u2, ICT_e (fun q q1 q2 => by rw [Y q (by omega), u3 q (by omega) (by omega) (by omega)]) hT, ?_, ICM_s M (ICM_e (fun q q1 q2 => by rw [Y q (by omega), X q (by omega)]) R.2.2.2.2.2.1), ICF_s F (ICF_e (fun q q1 q2 => by rw [Y q (by omega), X q (by omega)]) R.2.2.2.2.2.2)⟩ (ICK_0 hs_eq ?_ hk) (ICW_g G D (ICW_f (fun q hq => by rw [Y q (by omega), X q (by omega)]) IW)) ?_⟩
  · rw [Y 1 (by omega), X 1 (by omega), h4.1, h4.2]; exact R.2.2.2.2.1
  · rw [hs_nj (by omega), X 108 (by omega), hh]; exact (hit_e IK).2
  · unfold ic9 at I9 ⊢; rw [Y 116 (by omega), Y 117 (by omega), X 116 (by omega), X 117 (by omega)]; exact ⟨I9.1, by omega, I9.2.2⟩
/-! a move -/
theorem nmv_lt {d : Int} {k K : Nat} (h : k < K) (hv : a.vd k = d) : nmv a d k < nmv a d K := by
  have e := nmv_s hv
  have g := nmv_le a d (k + 1) (K - (k + 1))
  rw [show k + 1 + (K - (k + 1)) = K by omega] at g
  omega
def mvA (a : Ab) (d m p t : Int) : Ab := frs (hset (hset (hset (hset (hset a 141 a.moves d) 142 a.moves m) 143 a.moves p) 144 a.moves t) 129 15 (a.moves + 1))
section
variable {d m p t : Int}
theorem mv_q {q : Nat} (h : q ≠ 129) (h2 : q < 141 ∨ 144 < q) : mvA a d m p t q = a q := by
  unfold mvA; rw [frs_q h, hset_ne h, hset_ne (by omega), hset_ne (by omega), hset_ne (by omega), hset_ne (by omega)]
theorem mv_j {j : Int} (h : j ≠ 40) (h2 : j ≠ 15) : mvA a d m p t 129 j = a 129 j := by
  unfold mvA; rw [frs_j h, hs_nj h2, hset_ne (by omega), hset_ne (by omega), hset_ne (by omega), hset_ne (by omega)]
theorem mv_n : Ab.moves (mvA a d m p t) = a.moves + 1 := by unfold mvA Ab.moves; rw [frs_j (by omega)]; exact hs_eq
theorem mv_1 (j : Int) : Ab.vd (mvA a d m p t) j = if j = a.moves then d else a.vd j := by
  unfold mvA Ab.vd; rw [frs_q (by omega), hset_ne (by omega), hset_ne (by omega), hset_ne (by omega), hset_ne (by omega)]; exact hs_if
theorem mv_2 (j : Int) : Ab.vm (mvA a d m p t) j = if j = a.moves then m else a.vm j := by
  unfold mvA Ab.vm; rw [frs_q (by omega), hset_ne (by omega), hset_ne (by omega), hset_ne (by omega), hs_if, hset_ne (by omega)]
theorem mv_3 (j : Int) : Ab.vp (mvA a d m p t) j = if j = a.moves then p else a.vp j := by
  unfold mvA Ab.vp; rw [frs_q (by omega), hset_ne (by omega), hset_ne (by omega), hs_if, hset_ne (by omega), hset_ne (by omega)]
theorem mv_4 (j : Int) : Ab.vt (mvA a d m p t) j = if j = a.moves then t else a.vt j := by
  unfold mvA Ab.vt; rw [frs_q (by omega), hset_ne (by omega), hs_if, hset_ne (by omega), hset_ne (by omega), hset_ne (by omega)]
theorem mv_G : grw a (mvA a d m p t) := by
  have h130 : Ab.many (mvA a d m p t) = a.many := mv_q (by omega) (by omega)
  have h131 : Ab.kind (mvA a d m p t) = a.kind := mv_q (by omega) (by omega)
  intro d' _
  refine ⟨by rw [h130]; exact Int.le_refl _, fun k _ => by rw [h131], fun k h _ => ?_⟩
  unfold thr at h ⊢; rw [h130] at h; exact h
theorem mv_M : smea a (mvA a d m p t) := ⟨mv_q (by omega) (by omega), mv_q (by omega) (by omega), mv_q (by omega) (by omega), mv_q (by omega) (by omega), mv_j (by omega) (by omega)⟩
theorem mv_F : sfac a (mvA a d m p t) := ⟨fun q h1 h2 => mv_q (by omega) (by omega), mv_j (by omega) (by omega), mv_j (by omega) (by omega)⟩
theorem mv_D : swd a (mvA a d m p t) := ⟨mv_q (by omega) (by omega), mv_q (by omega) (by omega), mv_q (by omega) (by omega), mv_q (by omega) (by omega)⟩
theorem mv_P : spk a (mvA a d m p t) := ⟨mv_q (by omega) (by omega), mv_q (by omega) (by omega), mv_q (by omega) (by omega)⟩
theorem mv_t (W : WFA a) : sTm a (mvA a d m p t) := by
  have h130 : Ab.many (mvA a d m p t) = a.many := mv_q (by omega) (by omega)
  have h131 : Ab.kind (mvA a d m p t) = a.kind := mv_q (by omega) (by omega)
  have h132 : Ab.par (mvA a d m p t) = a.par := mv_q (by omega) (by omega)
  have hm := many_b W iD0
  exact ⟨by rw [h130]; exact Int.le_refl _, by rw [h130]; exact hm.2, fun k _ _ => by rw [h131, h132]; exact ⟨rfl, rfl⟩, fun k q1 q2 => by rw [h130] at q2; omega⟩
theorem mv_W (W : WFA a) (hd : d = 1 ∨ d = 2) (ht : thr a d m) (hp : isP a d m) (hp2 : isP a d p) (p0 : 0 ≤ p) (pm : p < m) (ht2 : thr a 0 t) (hp3 : isP a 0 t) (hv : a.moves < 10) : WFA (mvA a d m p t) := by
  have h7 : 0 ≤ a.moves ∧ a.moves ≤ 10 ∧ ∀ k : Int, 0 ≤ k → k < a.moves → (a.vd k = 1 ∨ a.vd k = 2) ∧ thr a (a.vd k) (a.vm k) ∧ isP a (a.vd k) (a.vm k) ∧ 0 ≤ a.vp k ∧ a.vp k < a.vm k ∧ isP a (a.vd k) (a.vp k) ∧ thr a 0 (a.vt k) ∧ isP a 0 (a.vt k) := W 7
  have h130 : Ab.many (mvA a d m p t) = a.many := mv_q (by omega) (by omega)
  have h131 : Ab.kind (mvA a d m p t) = a.kind := mv_q (by omega) (by omega)
  have h132 : Ab.par (mvA a d m p t) = a.par := mv_q (by omega) (by omega)
  have h133 : Ab.sign (mvA a d m p t) = a.sign := mv_q (by omega) (by omega)
  have h134 : Ab.set (mvA a d m p t) = a.set := mv_q (by omega) (by omega)
  have h135 : Ab.order (mvA a d m p t) = a.order := mv_q (by omega) (by omega)
  have h136 : Ab.hid (mvA a d m p t) = a.hid := mv_q (by omega) (by omega)
  have h145 : Ab.place (mvA a d m p t) = a.place := mv_q (by omega) (by omega)
  refine WFA_all (fun k hk => ?_) (wfa_8 W (mv_j (by omega) (by omega)) (mv_j (by omega) (by omega))) (wfa_m W mv_M) (wfa_fg W (gr_z mv_G) mv_M mv_F) (wfa_k0 (frs_0 _)) (wfa_pg W (gr_z mv_G) mv_P) (wfa_17 W (by unfold Ab.len; rw [mv_q (by omega) (by omega)]))
  have H := W k
  match k, hk, H with
  | 0, _, H => simp only [wfa, h130] at H ⊢; exact H
  | 1, _, H => simp only [wfa, h131, h136, h132] at H ⊢; exact H
  | 2, _, H => simp only [wfa, thr, h130, h131] at H ⊢; exact H
  | 3, _, H => simp only [wfa, thr, isP, h130, h131, h132, h133] at H ⊢; exact H
  | 4, _, H => simp only [wfa, thr, isP, h130, h131, h134] at H ⊢; exact H
  | 5, _, H => simp only [wfa, thr, h130, h131, h135] at H ⊢; exact H
  | 6, _, H => simp only [wfa, thr, isP, h130, h131, h136] at H ⊢; exact H
  | 7, _, _ =>
    simp only [wfa, mv_n, mv_1, mv_2, mv_3, mv_4, thr, isP, h130, h131]
    refine ⟨by omega, by omega, fun k k0 k1 => ?_⟩
    by_cases q : k = a.moves
    · rw [if_pos q, if_pos q, if_pos q, if_pos q]
      exact ⟨hd, ht, hp, p0, pm, hp2, ht2, hp3⟩
    · rw [if_neg q, if_neg q, if_neg q, if_neg q]
      exact h7.2.2 k k0 (by omega)
  | 8, hk, _ => omega
  | 9, _, H =>
    obtain ⟨row, c, hc, hpl⟩ : ∃ row c, Chn a row c ∧ ∀ i : Int, 0 ≤ i → i < c → a.place (row i) = i := H
    exact ⟨row, c, Chn_t (wT W) (mv_t W) hc, by rw [h145]; exact hpl⟩
  | _ + 10, hk, _ => omega
theorem nmv_mv (d' : Int) : ∀ k : Nat, (k : Int) ≤ a.moves → nmv (mvA a d m p t) d' k = nmv a d' k
  | 0, _ => rfl
  | k + 1, h => by
    have ih := nmv_mv d' k (by omega)
    unfold nmv
    rw [ih, mv_1, if_neg (show ¬ (k : Int) = a.moves by omega)]
end
end

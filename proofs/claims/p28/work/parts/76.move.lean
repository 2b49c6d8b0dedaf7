/-! ===== move ===== -/
section
variable {σ : Hp} {a a' b : Ab} {n : Nat} {B : Int} {e : Nat}
theorem told_x (hf : ∀ q : Nat, (130 ≤ q ∧ q ≤ 136) ∨ (163 ≤ q ∧ q ≤ 165) → a' q = a q) {p : Nat} {d : Int} (T : told σ a p d) {s : Hp} (E : ∀ q : Nat, q = p ∨ (p + 5 ≤ q ∧ q ≤ p + 15) → s q = σ q) (h13 : icd s a' p d 13) : told s a' p d := by
  obtain ⟨h0, h1, h2, h3, h4, h5, h6, h7, _, z1, z2, z3⟩ := T
  have h130 : a'.many = a.many := hf 130 (by omega)
  have h131 : a'.kind = a.kind := hf 131 (by omega)
  have h132 : a'.par = a.par := hf 132 (by omega)
  have h133 : a'.sign = a.sign := hf 133 (by omega)
  have h134 : a'.set = a.set := hf 134 (by omega)
  have h135 : a'.order = a.order := hf 135 (by omega)
  have h136 : a'.hid = a.hid := hf 136 (by omega)
  have h163 : a'.chos = a.chos := hf 163 (by omega)
  have h164 : a'.pick = a.pick := hf 164 (by omega)
  have h165 : a'.picks = a.picks := hf 165 (by omega)
  refine ⟨?_, ?_, ?_, ?_, ?_, ?_, ?_, ?_, h13, ?_, ?_, ?_⟩
  · have := icd_c0 (E p (by omega)) h0; simp only [icd, h130] at this ⊢; exact this
  · have := icd_c1 (E p (by omega)) h1; simp only [icd, h163] at this ⊢; exact this
  · have := icd_c2 (E p (by omega)) (E (p + 12) (by omega)) h2; simp only [icd, h164, h165] at this ⊢; exact this
  · have := icd_c3 (E (p + 5) (by omega)) h3; simp only [icd, thr, h130, h131] at this ⊢; exact this
  · have := icd_c4 (E (p + 6) (by omega)) (E (p + 7) (by omega)) h4; simp only [icd, thr, isP, h130, h131, h132, h133] at this ⊢; exact this
  · have := icd_c5 (E (p + 8) (by omega)) h5; simp only [icd, thr, h130, h131, h134] at this ⊢; exact this
  · have := icd_c6 (E (p + 9) (by omega)) h6; simp only [icd, thr, h130, h131, h135] at this ⊢; exact this
  · have := icd_c7 (E (p + 10) (by omega)) h7; simp only [icd, h136] at this ⊢; exact this
  · rw [E (p + 13) (by omega)]; exact z1
  · rw [E (p + 14) (by omega)]; exact z2
  · rw [E (p + 15) (by omega)]; exact z3
theorem e_MV_tell {p : Nat} {k x1 x2 x3 : Int} (h : σ p 0 = k) (k0 : 0 ≤ k) (k1 : k < 10) : f_MV_tell σ p x1 x2 x3 = some (hset (hset (hset (hset σ (p + 1) k x1) (p + 2) k x2) (p + 3) k x3) p 0 (k + 1)) := by
  unfold f_MV_tell
  apply ok_eq
  have e1 : (hset σ (p + 1) k x1) p 0 = k := by rw [hset_ne (by omega)]; exact h
  have e2 : (hset (hset σ (p + 1) k x1) (p + 2) k x2) p 0 = k := by rw [hset_ne (by omega)]; exact e1
  have e3 : (hset (hset (hset σ (p + 1) k x1) (p + 2) k x2) (p + 3) k x3) p 0 = k := by rw [hset_ne (by omega)]; exact e2
  rw [h, e1, e2, e3, if_neg (by omega)]
  exact ok_bind (ok_grd ⟨k0, k1⟩ (ok_grd ⟨k0, k1⟩ (ok_grd ⟨k0, k1⟩ (ok_grd (by (first | omega | (unfold r32; omega) | (unfold r64; omega) | (simp only [r32, r64] at *; omega))) (ok_some (ok_some rfl))))))
theorem ICT_mv (W : WFA a) {d m p t : Int} {s : Hp} (E : ∀ q : Nat, 92 ≤ q → q ≤ 94 → s q = σ q) (H : ICT σ a) : ICT s (mvA a d m p t) := by
  have h130 : Ab.many (mvA a d m p t) = a.many := mv_q (by omega) (by omega)
  have h131 : Ab.kind (mvA a d m p t) = a.kind := mv_q (by omega) (by omega)
  have h145 : Ab.place (mvA a d m p t) = a.place := mv_q (by omega) (by omega)
  refine ICT_e E (fun k => ?_)
  match k with
  | 0 =>
    have h0 : Chn a (σ 93) (σ 92 0) ∧ ∀ i : Int, 0 ≤ i → i < σ 92 0 → a.place (σ 93 i) = i := H 0
    exact ⟨Chn_t (wT W) (mv_t W) h0.1, by rw [h145]; exact h0.2⟩
  | 1 =>
    have h1 : ∀ m : Int, 0 ≤ m → m < 12 → σ 94 m = @ite _ (thr a 0 m ∧ isP a 0 m) (Classical.propDecidable _) (a.place m) (-1) := H 1
    intro i m0 m1
    have e : (thr (mvA a d m p t) 0 i ∧ isP (mvA a d m p t) 0 i) ↔ (thr a 0 i ∧ isP a 0 i) := by simp only [thr, isP, h130, h131]
    rw [h145, h1 i m0 m1]
    by_cases g : thr a 0 i ∧ isP a 0 i
    · rw [if_pos g, if_pos (e.mpr g)]
    · rw [if_neg g, if_neg (fun q => g (e.mp q))]
  | _ + 2 => trivial
def mvOk (a : Ab) (d m p t : Int) : Prop := (d = 1 ∨ d = 2) ∧ thr a d m ∧ thr a d p ∧ thr a 0 t ∧ m ≠ 0
def mvPl (a : Ab) (d m p t : Int) : Prop := isP a d m ∧ isP a d p ∧ isP a 0 t
/-- the class's part of a move -/
theorem c_move (W : WFA a) (I : IC σ a n B) {d m p t : Int} (h : mvOk a d m p t) (hp : mvPl a d m p t) (hm : p < m) (hv : a.moves < 10) {B' : Int} (hB : B ≤ B') : Okk (f_MV_tell σ (dP d + 1) m p t) fun s => Okk (f_S_weigh s) fun u => (∀ q : Nat, 95 ≤ q → u q = σ q) ∧ IC (hset u 108 0 0) (mvA a d m p t) n B' := by
  obtain ⟨R, IK, IW, I9⟩ := IC_r I
  obtain ⟨hd12, ht1, ht2, ht3, m0⟩ := h
  have hd : inD d := by unfold inD; omega
  have hdp := dP_b hd
  have h7 : 0 ≤ a.moves ∧ a.moves ≤ 10 ∧ _ := W 7
  have g13 : σ (dP d + 1) 0 = nmv a d a.moves.toNat ∧ ∀ k : Nat, (k : Int) < a.moves → a.vd k = d → σ (dP d + 2) (nmv a d k) = a.vm k ∧ σ (dP d + 3) (nmv a d k) = a.vp k ∧ σ (dP d + 4) (nmv a d k) = a.vt k := icr_d R hd 13
  have nb := nmv_b a d a.moves.toNat
  refine eq_ok (e_MV_tell g13.1 nb.1 (by omega)) ?_
  generalize hs : hset (hset (hset (hset σ (dP d + 1 + 1) (nmv a d a.moves.toNat) m) (dP d + 1 + 2) (nmv a d a.moves.toNat) p) (dP d + 1 + 3) (nmv a d a.moves.toNat) t) (dP d + 1) 0 (nmv a d a.moves.toNat + 1) = s
  have E : ∀ q : Nat, q < dP d + 1 ∨ dP d + 4 < q → s q = σ q := fun q hq => by
    rw [← hs, hset_ne (by omega), hset_ne (by omega), hset_ne (by omega), hset_ne (by omega)]
  have e1 : s (dP d + 1) 0 = nmv a d a.moves.toNat + 1 := by rw [← hs]; exact hs_eq
  have e2 : ∀ j : Int, s (dP d + 2) j = if j = nmv a d a.moves.toNat then m else σ (dP d + 2) j := fun j => by
    rw [← hs, hset_ne (by omega), hset_ne (by omega), hset_ne (by omega)]; exact hs_if
  have e3 : ∀ j : Int, s (dP d + 3) j = if j = nmv a d a.moves.toNat then p else σ (dP d + 3) j := fun j => by
    rw [← hs, hset_ne (by omega), hset_ne (by omega), show dP d + 1 + 2 = dP d + 3 by omega, hs_if, hset_ne (by omega)]
  have e4 : ∀ j : Int, s (dP d + 4) j = if j = nmv a d a.moves.toNat then t else σ (dP d + 4) j := fun j => by
    rw [← hs, hset_ne (by omega), show dP d + 1 + 3 = dP d + 4 by omega, hs_if, hset_ne (by omega), hset_ne (by omega)]
  have en : ((a.moves + 1).toNat) = a.moves.toNat + 1 := by omega
  have ec : ((a.moves.toNat : Nat) : Int) = a.moves := by omega
  have W' := mv_W W hd12 ht1 hp.1 hp.2.1 ht2.1 hm ht3 hp.2.2 hv
  have T : ∀ d' : Int, inD d' → told s (mvA a d m p t) (dP d') d' := by
    intro d' hd'
    have hdp' := dP_b hd'
    have G := icr_d R hd'
    have k13 : σ (dP d' + 1) 0 = nmv a d' a.moves.toNat ∧ ∀ k : Nat, (k : Int) < a.moves → a.vd k = d' → σ (dP d' + 2) (nmv a d' k) = a.vm k ∧ σ (dP d' + 3) (nmv a d' k) = a.vp k ∧ σ (dP d' + 4) (nmv a d' k) = a.vt k := G 13
    refine told_x (fun q hq => mv_q (by omega) (by omega)) (told_of W hd' G) (fun q hq => E q (by omega)) ?_
    by_cases g : d' = d
    · subst g
      simp only [icd, mv_n, en]
      refine ⟨?_, fun k hk hv' => ?_⟩
      · rw [e1, nmv_s (by rw [ec, mv_1, if_pos rfl]), nmv_mv d' a.moves.toNat (by omega)]
      · rw [mv_1] at hv'
        rw [nmv_mv d' k (by omega), mv_2, mv_3, mv_4, e2, e3, e4]
        by_cases q : (k : Int) = a.moves
        · have : k = a.moves.toNat := by omega
          subst this
          rw [if_pos rfl, if_pos rfl, if_pos rfl, if_pos q, if_pos q, if_pos q]
          exact ⟨rfl, rfl, rfl⟩
        · rw [if_neg q] at hv'
          have lt := nmv_lt (K := a.moves.toNat) (by omega) hv'
          have ne : ¬ nmv a d' k = nmv a d' a.moves.toNat := by omega
          rw [if_neg ne, if_neg ne, if_neg ne, if_neg q, if_neg q, if_neg q]
          exact k13.2 k (by omega) hv'
    · have hne : dP d' ≠ dP d := by
        unfold dP
        rcases hd with rfl | rfl | rfl <;> rcases hd' with rfl | rfl | rfl <;> simp at g ⊢
      simp only [icd, mv_n, en]
      rw [E (dP d' + 1) (by omega), E (dP d' + 2) (by omega), E (dP d' + 3) (by omega), E (dP d' + 4) (by omega)]
      refine ⟨?_, fun k hk hv' => ?_⟩
      · rw [k13.1, nmv_n (by rw [ec, mv_1, if_pos rfl]; exact fun q => g q.symm), nmv_mv d' a.moves.toNat (by omega)]
      · rw [mv_1] at hv'
        have q : ¬ (k : Int) = a.moves := fun q => by rw [if_pos q] at hv'; exact g hv'.symm
        rw [if_neg q] at hv'
        rw [nmv_mv d' k (by omega), mv_2, mv_3, mv_4, if_neg q, if_neg q, if_neg q]
        exact k13.2 k (by omega) hv'
  exact c_str I W' mv_G mv_M mv_F mv_D ⟨mv_j (by omega) (by omega), mv_j (by omega) (by omega)⟩ (frs_0 _) (mv_j (by omega) (by omega)) (T 0 iD0) (T 1 iD1) (T 2 iD2) (ICT_mv W (fun q q1 q2 => E q (by omega)) R.2.2.2.1) (fun q hq => E q (by omega)) hB
end

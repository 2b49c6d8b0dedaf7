/-! ===== word ===== -/
section
variable {σ : Hp} {a a' : Ab} {n : Nat} {B : Int} {e : Nat}
/-- the draft with a word more -/
def wdA (a : Ab) (w x y : Int) : Ab := hset (hset (hset (hset a 137 (360 + a.len 36) w) 138 (360 + a.len 36) x) 139 (360 + a.len 36) y) 140 36 (a.len 36 + 1)
section
variable {w x y : Int}
theorem wd_q {q : Nat} (h : q < 137 ∨ 140 < q) : wdA a w x y q = a q := by unfold wdA; rw [hset_ne (by omega), hset_ne (by omega), hset_ne (by omega), hset_ne (by omega)]
theorem wd_w (i : Int) : Ab.what (wdA a w x y) i = if i = 360 + a.len 36 then w else a.what i := by show wdA a w x y 137 i = _; unfold wdA; rw [hset_ne (by omega), hset_ne (by omega), hset_ne (by omega)]; exact hs_if
theorem wd_o (i : Int) : Ab.one (wdA a w x y) i = if i = 360 + a.len 36 then x else a.one i := by
  show wdA a w x y 138 i = _; unfold wdA; rw [hset_ne (by omega), hset_ne (by omega), hs_if]
  by_cases h : i = 360 + a.len 36
  · rw [if_pos h, if_pos h]
  · rw [if_neg h, if_neg h, hset_ne (by omega)]; rfl
theorem wd_t (i : Int) : Ab.two (wdA a w x y) i = if i = 360 + a.len 36 then y else a.two i := by
  show wdA a w x y 139 i = _; unfold wdA; rw [hset_ne (by omega), hs_if]
  by_cases h : i = 360 + a.len 36
  · rw [if_pos h, if_pos h]
  · rw [if_neg h, if_neg h, hset_ne (by omega), hset_ne (by omega)]; rfl
theorem wd_l (s : Int) : Ab.len (wdA a w x y) s = if s = 36 then a.len 36 + 1 else a.len s := by
  show wdA a w x y 140 s = _; unfold wdA; rw [hs_if]
  by_cases h : s = 36
  · rw [if_pos h, if_pos h]
  · rw [if_neg h, if_neg h, hset_ne (by omega), hset_ne (by omega), hset_ne (by omega)]; rfl
theorem wd_S : smem a (wdA a w x y) := ⟨fun q hq => wd_q (by omega), by show wdA a w x y 129 15 = a 129 15; rw [wd_q (by omega)]⟩
theorem wd_V (hl : 0 ≤ a.len 36) : sval a (wdA a w x y) := ⟨wd_S, ⟨wd_q (by omega), wd_q (by omega), wd_q (by omega), wd_q (by omega), by show wdA a w x y 129 23 = a 129 23; rw [wd_q (by omega)]⟩, ⟨by show wdA a w x y 129 16 = a 129 16; rw [wd_q (by omega)], by show wdA a w x y 129 17 = a 129 17; rw [wd_q (by omega)]⟩, fun q h1 h2 => wd_q (by omega), by show wdA a w x y 129 29 = a 129 29; rw [wd_q (by omega)], fun i hi => ⟨by rw [wd_w, if_neg (by omega)], by rw [wd_o, if_neg (by omega)], by rw [wd_t, if_neg (by omega)]⟩, fun s hs => by rw [wd_l, if_neg (by omega)]⟩
theorem wd_p (hl : 0 ≤ a.len 36) (s : Int) (hs : s < 36) : ∀ k : Nat, k ≤ 10 → pilF (wdA a w x y) s k = pilF a s k
  | 0, _ => rfl
  | k + 1, h => by
    simp only [pilF, wd_p hl s hs k (by omega), wd_w, if_neg (show ¬ 10 * s + (k : Int) = 360 + a.len 36 by omega)]
theorem wd_p36 : ∀ k : Nat, (k : Int) ≤ a.len 36 → pilF (wdA a w x y) 36 k = pilF a 36 k
  | 0, _ => rfl
  | k + 1, h => by
    simp only [pilF, wd_p36 k (by omega), wd_w, if_neg (show ¬ 10 * 36 + (k : Int) = 360 + a.len 36 by omega)]
end
theorem e_F_hasRoomFor {P w : Int} (hP : 0 ≤ P) : f_F_hasRoomFor σ P w = some (bI (σ P.toNat 0 < 10 ∧ (w ≤ 2 ∨ 2 ≤ σ P.toNat 1))) := by
  unfold f_F_hasRoomFor; apply ok_eq
  refine ok_grd hP (ok_bind (ok_ite (fun g => ok_some (ok_grd (by omega) (ok_some (bI_f (by omega)).symm))) (fun g => ok_ite (fun g2 => ok_some (ok_grd (by omega) (ok_some (bI_t (by omega)).symm))) (fun g2 => ok_grd hP (ok_ite (fun g3 => ok_some (ok_grd (by omega) (ok_some (bI_f (by omega)).symm))) (fun g3 => ok_some (ok_grd (by omega) (ok_some (bI_t (by omega)).symm))))))))
theorem e_F_put {P w x y : Int} (hP : 0 ≤ P) (h10 : 0 ≤ σ P.toNat 0 ∧ σ P.toNat 0 < 10) (hp : -100 ≤ σ P.toNat 1 ∧ σ P.toNat 1 ≤ 100) : f_F_put σ P w x y = some (hset (hset (hset (hset (hset σ (P.toNat + 1) (σ P.toNat 0) w) (P.toNat + 2) (σ P.toNat 0) x) (P.toNat + 3) (σ P.toNat 0) y) P.toNat 0 (σ P.toNat 0 + 1)) P.toNat 1 (σ P.toNat 1 + (if 2 < w then -1 else 1))) := by
  unfold f_F_put; apply ok_eq
  generalize P.toNat = p at *
  generalize hc : σ p 0 = c at *
  generalize hd : σ p 1 = d at *
  have e1 : (hset σ (p + 1) c w) p 0 = c := by rw [hset_ne (by omega)]; exact hc
  rw [e1]
  have e2 : (hset (hset σ (p + 1) c w) (p + 2) c x) p 0 = c := by rw [hset_ne (by omega)]; exact e1
  rw [e2]
  have e3 : (hset (hset (hset σ (p + 1) c w) (p + 2) c x) (p + 3) c y) p 0 = c := by rw [hset_ne (by omega)]; exact e2
  rw [e3]
  have e4 : (hset (hset (hset (hset σ (p + 1) c w) (p + 2) c x) (p + 3) c y) p 0 (c + 1)) p 1 = d := by rw [hs_nj (by omega), hset_ne (by omega), hset_ne (by omega), hset_ne (by omega)]; exact hd
  rw [e4, if_neg (by omega)]
  refine ok_grd hP (ok_bind (ok_grd hP (ok_grd hP (ok_grd (by omega) (ok_grd hP (ok_grd hP (ok_grd (by omega) (ok_grd hP (ok_grd hP (ok_grd (by omega) (ok_grd hP (ok_grd (by (first | omega | (unfold r32; omega) | (unfold r64; omega) | (simp only [r32, r64] at *; omega))) (ok_grd hP (ok_grd hP ?_))))))))))))))
  refine ok_call (P := fun r => r = if 2 < w then -1 else 1) (ok_ite (fun g => ok_some (if_pos g).symm) (fun g => ok_some (if_neg g).symm)) ?_
  rintro r rfl
  have hr : -1 ≤ (if 2 < w then -1 else 1 : Int) ∧ (if 2 < w then -1 else 1 : Int) ≤ 1 := by
    by_cases g : 2 < w
    · rw [if_pos g]; omega
    · rw [if_neg g]; omega
  exact ok_grd (by (first | omega | (unfold r32; omega) | (unfold r64; omega) | (simp only [r32, r64] at *; omega))) (ok_grd hP (ok_some (ok_some rfl)))
/-- what a word may be -/
def wdOk (w x y : Int) : Prop := (0 ≤ w ∧ w ≤ 6) ∧ (w = 0 → -1000000 ≤ x ∧ x ≤ 1000000) ∧ (w = 1 ∨ w = 2 → 0 ≤ x ∧ x ≤ 11) ∧ (w = 1 → 0 ≤ y ∧ y ≤ 11)
theorem op_word (H : J σ a n B) (hB : B ≤ 100000) (w x y : Int) : OPT σ a n B e (fun code v b => TT a False (fun _ b => TKs a b) code v b) (f_L_word σ e w x y) := by
  obtain ⟨W, K, V, I, VV, h1, h2⟩ := id H
  obtain ⟨R, IK, IW, I9⟩ := IC_r I
  have hl : 0 ≤ a.len 36 ∧ a.len 36 ≤ 10 := W 17
  have k0 : wrdOk a 36 := K 0
  obtain ⟨p1, p2, p3⟩ : fPt n (σ 0 6) ∧ fHd σ a (σ 0 6).toNat 36 ∧ σ (σ 0 6).toNat 1 = pilF a 36 (a.len 36).toNat := IW 0
  have hP := fPt_b p1
  have hpb : ∀ j : Nat, -(j : Int) ≤ pilF a 36 j ∧ pilF a 36 j ≤ j := by
    intro j
    induction j with
    | zero => exact ⟨by simp [pilF], by simp [pilF]⟩
    | succ j ihj =>
      show _ ≤ (if _ then _ else _) ∧ (if _ then _ else _) ≤ _
      by_cases q : a.what (10 * 36 + j) < 3
      · rw [if_pos q]; omega
      · rw [if_neg q]; omega
  have hpl := hpb (a.len 36).toNat
  -- the class's tests
  have T : Okk (f_C_word σ w x y) fun r => (wdOk w x y → ((a.len 36 < 10 ∧ (w ≤ 2 ∨ 2 ≤ pilF a 36 (a.len 36).toNat)) → r = (0, a.len 36 + 1, hset (hset (hset (hset (hset σ ((σ 0 6).toNat + 1) (a.len 36) w) ((σ 0 6).toNat + 2) (a.len 36) x) ((σ 0 6).toNat + 3) (a.len 36) y) (σ 0 6).toNat 0 (a.len 36 + 1)) (σ 0 6).toNat 1 (pilF a 36 (a.len 36).toNat + (if 2 < w then -1 else 1)))) ∧ (¬ (a.len 36 < 10 ∧ (w ≤ 2 ∨ 2 ≤ pilF a 36 (a.len 36).toNat)) → r = (3, 0, σ))) ∧ (¬ wdOk w x y → r = (2, 0, σ)) := by
    unfold f_C_word
    by_cases h0 : 0 ≤ w ∧ w ≤ 6
    · refine ok_eqb (nR_y h0) ?_
      rw [if_pos rfl]
      refine ok_call (P := fun r => (r = (0, ()) ∧ (w = 0 → -1000000 ≤ x ∧ x ≤ 1000000)) ∨ (r = (2, ()) ∧ ¬ (w = 0 → -1000000 ≤ x ∧ x ≤ 1000000))) ?_ ?_
      · refine ok_ite (fun g => ok_some (Or.inl ⟨rfl, fun q => absurd q g⟩)) (fun g => ?_)
        by_cases hr : -1000000 ≤ x ∧ x ≤ 1000000
        · refine ok_eqb (nR_y hr) ?_
          rw [if_pos rfl]; exact ok_some (Or.inl ⟨rfl, fun _ => hr⟩)
        · refine ok_eqb (nR_n hr) ?_
          rw [if_neg (by omega)]; exact ok_grd (by omega) (ok_some (Or.inr ⟨rfl, fun q => hr (q (Classical.not_not.mp g))⟩))
      rintro r (⟨rfl, c1⟩ | ⟨rfl, c1⟩)
      · rw [if_pos rfl]
        refine ok_call (P := fun r => (r = (0, ()) ∧ (w = 1 ∨ w = 2 → 0 ≤ x ∧ x ≤ 11)) ∨ (r = (2, ()) ∧ ¬ (w = 1 ∨ w = 2 → 0 ≤ x ∧ x ≤ 11))) ?_ ?_
        · have Z : (w = 1 ∨ w = 2) → Okk ((f_C_needRange σ x 0 11).bind fun v12 => if v12 = 0 then some (0, ()) else grd (v12 ≤ 3) <| some (v12, ()) : Option (Nat × Unit)) fun r => (r = (0, ()) ∧ (w = 1 ∨ w = 2 → 0 ≤ x ∧ x ≤ 11)) ∨ (r = (2, ()) ∧ ¬ (w = 1 ∨ w = 2 → 0 ≤ x ∧ x ≤ 11)) := by
            intro g
            by_cases hr : 0 ≤ x ∧ x ≤ 11
            · refine ok_eqb (nR_y hr) ?_
              rw [if_pos rfl]; exact ok_some (Or.inl ⟨rfl, fun _ => hr⟩)
            · refine ok_eqb (nR_n hr) ?_
              rw [if_neg (by omega)]; exact ok_grd (by omega) (ok_some (Or.inr ⟨rfl, fun q => hr (q g)⟩))
          refine ok_ite (fun g => Z (Or.inl g)) (fun g => ok_ite (fun g2 => ok_some (Or.inl ⟨rfl, fun q => by omega⟩)) (fun g2 => Z (Or.inr (Classical.not_not.mp g2))))
        rintro r (⟨rfl, c2⟩ | ⟨rfl, c2⟩)
        · rw [if_pos rfl]
          refine ok_call (P := fun r => (r = (0, ()) ∧ (w = 1 → 0 ≤ y ∧ y ≤ 11)) ∨ (r = (2, ()) ∧ ¬ (w = 1 → 0 ≤ y ∧ y ≤ 11))) ?_ ?_
          · refine ok_ite (fun g => ok_some (Or.inl ⟨rfl, fun q => absurd q g⟩)) (fun g => ?_)
            by_cases hr : 0 ≤ y ∧ y ≤ 11
            · refine ok_eqb (nR_y hr) ?_
              rw [if_pos rfl]; exact ok_some (Or.inl ⟨rfl, fun _ => hr⟩)
            · refine ok_eqb (nR_n hr) ?_
              rw [if_neg (by omega)]; exact ok_grd (by omega) (ok_some (Or.inr ⟨rfl, fun q => hr (q (Classical.not_not.mp g))⟩))
          rintro r (⟨rfl, c3⟩ | ⟨rfl, c3⟩)
          · rw [if_pos rfl]
            refine ok_grd hP.1 (ok_eqb (e_F_hasRoomFor hP.1) ?_)
            rw [p2.1, p3]
            by_cases hr : a.len 36 < 10 ∧ (w ≤ 2 ∨ 2 ≤ pilF a 36 (a.len 36).toNat)
            · rw [bI_t hr]
              refine ok_eqb need1 ?_
              rw [if_pos rfl]
              have hput := e_F_put (σ := σ) (P := σ 0 6) (w := w) (x := x) (y := y) hP.1 (by rw [p2.1]; omega) (by rw [p3]; omega)
              rw [p2.1, p3] at hput
              refine ok_grd hP.1 (ok_eqb hput ?_)
              have e6 : (hset (hset (hset (hset (hset σ ((σ 0 6).toNat + 1) (a.len 36) w) ((σ 0 6).toNat + 2) (a.len 36) x) ((σ 0 6).toNat + 3) (a.len 36) y) (σ 0 6).toNat 0 (a.len 36 + 1)) (σ 0 6).toNat 1 (pilF a 36 (a.len 36).toNat + (if 2 < w then -1 else 1))) 0 6 = σ 0 6 := by
                rw [hset_ne (by omega), hset_ne (by omega), hset_ne (by omega), hset_ne (by omega), hset_ne (by omega)]
              rw [e6]
              refine ok_grd hP.1 (ok_some ⟨fun _ => ⟨fun _ => ?_, fun q => absurd hr q⟩, fun q => absurd ⟨h0, c1, c2, c3⟩ q⟩)
              rw [hs_nj (by omega), hs_eq]
            · rw [bI_f hr]
              refine ok_eqb need0 ?_
              rw [if_neg (by omega)]
              exact ok_grd (by omega) (ok_some ⟨fun _ => ⟨fun q => absurd q hr, fun _ => rfl⟩, fun q => absurd ⟨h0, c1, c2, c3⟩ q⟩)
          · rw [if_neg (by simp)]
            exact ok_some ⟨fun q => absurd q.2.2.2 c3, fun _ => rfl⟩
        · rw [if_neg (by simp)]
          exact ok_some ⟨fun q => absurd q.2.2.1 c2, fun _ => rfl⟩
      · rw [if_neg (by simp)]
        exact ok_some ⟨fun q => absurd q.2.1 c1, fun _ => rfl⟩
    · refine ok_eqb (nR_n h0) ?_
      rw [if_neg (by omega)]
      exact ok_grd (by omega) (ok_some ⟨fun q => absurd q.1 h0, fun _ => rfl⟩)
  -- the reference's
  by_cases hw : wdOk w x y
  · by_cases hr : a.len 36 < 10 ∧ (w ≤ 2 ∨ 2 ≤ pilF a 36 (a.len 36).toNat)
    · have SV := wd_V (a := a) (w := w) (x := x) (y := y) hl.1
      have S := SV.1
      have F : sfac a (wdA a w x y) := ⟨fun q h1 h2 => wd_q (by omega), by show wdA a w x y 129 29 = a 129 29; rw [wd_q (by omega)], by show wdA a w x y 129 35 = a 129 35; rw [wd_q (by omega)]⟩
      have P : spk a (wdA a w x y) := ⟨wd_q (by omega), wd_q (by omega), wd_q (by omega)⟩
      have a3 : Ab.hits (wdA a w x y) = a.hits := by show wdA a w x y 129 41 = a 129 41; rw [wd_q (by omega)]
      have a4 : Ab.keeps (wdA a w x y) = a.keeps := by show wdA a w x y 129 40 = a 129 40; rw [wd_q (by omega)]
      have L36 : Ab.len (wdA a w x y) 36 = a.len 36 + 1 := by rw [wd_l, if_pos rfl]
      have h130 : Ab.many (wdA a w x y) = a.many := S.1 130 (by omega)
      have h131 : Ab.kind (wdA a w x y) = a.kind := S.1 131 (by omega)
      have W' : WFA (wdA a w x y) := WFA_all (wfa_s W S) (wfa_8 W SV.2.2.1.1 SV.2.2.1.2) (wfa_m W SV.2.1) (wfa_f W S SV.2.1 F) (wfa_k W S SV.2.1.2.2.2.2 (wd_q (by omega)) a4) (wfa_p W S P) (by show 0 ≤ Ab.len (wdA a w x y) 36 ∧ Ab.len (wdA a w x y) 36 ≤ 10; rw [L36]; omega)
      have OKs : ∀ s : Int, 0 ≤ s → s < 36 → (wrdOk (wdA a w x y) s ↔ wrdOk a s) := by
        intro s s0 s1
        have hls : Ab.len (wdA a w x y) s = a.len s := by rw [wd_l, if_neg (by omega)]
        unfold wrdOk
        rw [hls]
        refine ⟨fun q => ⟨q.1, q.2.1, fun k hk => ?_⟩, fun q => ⟨q.1, q.2.1, fun k hk => ?_⟩⟩
        · have h := q.2.2 k hk
          rw [wd_w, wd_o, wd_t, wd_p hl.1 s s1 k (by omega), if_neg (by omega), if_neg (by omega), if_neg (by omega)] at h
          exact h
        · have h := q.2.2 k hk
          rw [wd_w, wd_o, wd_t, wd_p hl.1 s s1 k (by omega), if_neg (by omega), if_neg (by omega), if_neg (by omega)]
          exact h
      have K' : WFW (wdA a w x y) := by
        intro k
        match k with
        | 0 =>
          refine (show 0 ≤ Ab.len (wdA a w x y) 36 ∧ Ab.len (wdA a w x y) 36 ≤ 10 ∧ _ from ⟨by rw [L36]; omega, by rw [L36]; omega, fun k hk => ?_⟩)
          rw [L36] at hk
          rw [wd_w, wd_o, wd_t, wd_p36 k (by omega)]
          by_cases q : (k : Int) = a.len 36
          · have e1 : 10 * 36 + (k : Int) = 360 + a.len 36 := by omega
            rw [if_pos e1, if_pos e1, if_pos e1]
            have e2 : (a.len 36).toNat = k := by omega
            rw [e2] at hr
            exact ⟨hw.1.1, hw.1.2, fun g => by omega, hw.2.1, hw.2.2.1, hw.2.2.2⟩
          · have e1 : ¬ 10 * 36 + (k : Int) = 360 + a.len 36 := by omega
            rw [if_neg e1, if_neg e1, if_neg e1]
            exact k0.2.2 k (by omega)
        | 1 =>
          intro d m hd ht hk
          simp only [thr, h130] at ht
          rw [h131] at hk
          have hd' := inD_b hd
          have m12 := thr12 W hd ht
          have g := wds K hd ht hk
          have hls : Ab.len (wdA a w x y) (12 * d + m) = a.len (12 * d + m) := by rw [wd_l, if_neg (by omega)]
          have hl10 := g.2.1.2.1
          rw [hls]
          refine ⟨g.1, (OKs _ (by omega) (by omega)).mpr g.2.1, by rw [wd_p hl.1 _ (by omega) _ (by omega)]; exact g.2.2.1, fun k k0 k1 hk => ?_⟩
          have e0 : ¬ 10 * (12 * d + m) + k = 360 + a.len 36 := by omega
          rw [wd_w, if_neg e0] at hk
          rw [wd_o, if_neg e0]
          exact g.2.2.2 k k0 k1 hk
        | _ + 2 => trivial
      refine ⟨0, a.len 36 + 1, wdA a w x y, ⟨W', K', by rw [a3]; exact h1, by rw [a3]; omega⟩, (TT_0 (TKs_s S SV.2.1.2.2.2.2 a3)), ?_⟩
      · unfold f_L_word
        refine L_ok W' (ok_mono T (fun r hr' => ?_))
        have e := (hr'.1 hw).1 hr
        rw [e]
        refine ⟨rfl, rfl, fun q q1 q2 => ?_, ?_⟩
        · dsimp only; rw [hset_ne (by omega), hset_ne (by omega), hset_ne (by omega), hset_ne (by omega), hset_ne (by omega)]
        · dsimp only
          generalize hp : (σ 0 6).toNat = p at *
          have p125 : p = 125 ∨ (171 ≤ p ∧ p + 3 < 1048576) := hP.2
          generalize hs : hset (hset (hset (hset (hset σ (p + 1) (a.len 36) w) (p + 2) (a.len 36) x) (p + 3) (a.len 36) y) p 0 (a.len 36 + 1)) p 1 (pilF a 36 (a.len 36).toNat + (if 2 < w then -1 else 1)) = s
          have E : ∀ q : Nat, q < p ∨ p + 3 < q → s q = σ q := fun q hq => by subst hs; rw [hset_ne (by omega), hset_ne (by omega), hset_ne (by omega), hset_ne (by omega), hset_ne (by omega)]
          refine IC_mk (ICR_by W S P ⟨?_, ?_⟩ SV.2.1 F (ICR_f W (fun q hq => E q (by omega)) R)) (ICK_s W K SV a4 a3 (wd_q (by omega)) (ICK_f (fun q q1 q2 => E q (by omega)) IK)) ?_ ?_
          · rw [E 1 (by omega), SV.2.2.1.1]; exact R.2.2.2.2.1.1
          · rw [E 1 (by omega), SV.2.2.1.2]; exact R.2.2.2.2.1.2
          · intro k
            match k with
            | 0 =>
              refine (show fPt n (s 0 6) ∧ fHd s (wdA a w x y) (s 0 6).toNat 36 ∧ s (s 0 6).toNat 1 = pilF (wdA a w x y) 36 (Ab.len (wdA a w x y) 36).toNat from ?_)
              rw [E 0 (by omega), hp, L36]
              refine ⟨p1, ⟨?_, fun k k0 k1 => ?_⟩, ?_⟩
              · subst hs; rw [L36, hs_nj (by omega), hs_eq]
              · rw [L36] at k1
                rw [wd_w, wd_o, wd_t]
                have s1 : ∀ i : Int, s (p + 1) i = if i = a.len 36 then w else σ (p + 1) i := fun i => by subst hs; rw [hset_ne (by omega), hset_ne (by omega), hset_ne (by omega), hset_ne (by omega)]; exact hs_if
                have s2 : ∀ i : Int, s (p + 2) i = if i = a.len 36 then x else σ (p + 2) i := fun i => by
                  subst hs; rw [hset_ne (by omega), hset_ne (by omega), hset_ne (by omega), hs_if]
                  rw [hset_ne (by omega)]
                have s3 : ∀ i : Int, s (p + 3) i = if i = a.len 36 then y else σ (p + 3) i := fun i => by
                  subst hs; rw [hset_ne (by omega), hset_ne (by omega), hs_if]
                  rw [hset_ne (by omega), hset_ne (by omega)]
                rw [s1, s2, s3]
                by_cases q : k = a.len 36
                · have e1 : 10 * 36 + k = 360 + a.len 36 := by omega
                  rw [if_pos q, if_pos q, if_pos q, if_pos e1, if_pos e1, if_pos e1]; exact ⟨rfl, rfl, rfl⟩
                · have e1 : ¬ 10 * 36 + k = 360 + a.len 36 := by omega
                  rw [if_neg q, if_neg q, if_neg q, if_neg e1, if_neg e1, if_neg e1]
                  exact p2.2 k k0 (by omega)
              · have e3 : s p 1 = pilF a 36 (a.len 36).toNat + (if 2 < w then -1 else 1) := by subst hs; exact hs_eq
                have ew : Ab.what (wdA a w x y) (10 * 36 + ((a.len 36).toNat : Int)) = w := by rw [wd_w, if_pos (by omega)]
                rw [e3, show (a.len 36 + 1).toNat = (a.len 36).toNat + 1 by omega]
                show _ = if Ab.what (wdA a w x y) (10 * 36 + ((a.len 36).toNat : Int)) < 3 then pilF (wdA a w x y) 36 (a.len 36).toNat + 1 else pilF (wdA a w x y) 36 (a.len 36).toNat - 1
                rw [ew, wd_p36 _ (by omega)]
                by_cases q : 2 < w
                · rw [if_pos q, if_neg (by omega)]; omega
                · rw [if_neg q, if_pos (by omega)]
            | 1 =>
              intro d m hd ht hk
              simp only [thr, h130] at ht
              rw [h131] at hk
              have hd' := inD_b hd
              have m12 := thr12 W hd ht
              have hdp := dP_b hd
              have g : fPt n (σ (dP d + 11) m) ∧ σ (dP d + 11) m ≠ σ 0 6 ∧ fHd σ a (σ (dP d + 11) m).toNat (12 * d + m) := IW 1 d m hd ht hk
              have hq := fPt_b g.1
              have hl10 := (wds K hd ht hk).2.1.2.1
              rw [E (dP d + 11) (by omega), E 0 (by omega)]
              have hfar : ∀ j : Nat, j ≤ 3 → ((σ (dP d + 11) m).toNat + j < p ∨ p + 3 < (σ (dP d + 11) m).toNat + j) := by
                intro j hj
                have gn := g.2.1
                rcases p1 with c1 | c1 <;> rcases g.1 with c2 | c2 <;> omega
              refine ⟨g.1, g.2.1, ?_⟩
              have hls : Ab.len (wdA a w x y) (12 * d + m) = a.len (12 * d + m) := by rw [wd_l, if_neg (by omega)]
              unfold fHd
              rw [hls, E (σ (dP d + 11) m).toNat (hfar 0 (by omega)), E _ (hfar 1 (by omega)), E _ (hfar 2 (by omega)), E _ (hfar 3 (by omega))]
              refine ⟨g.2.2.1, fun k k0 k1 => ?_⟩
              rw [wd_w, wd_o, wd_t, if_neg (by omega), if_neg (by omega), if_neg (by omega)]
              exact g.2.2.2 k k0 k1
            | 2 => exact IW 2
            | _ + 3 => trivial
          · unfold ic9 at I9 ⊢; rw [E 116 (by omega), E 117 (by omega)]; exact ⟨I9.1, by omega, I9.2.2⟩
    · refine opt_er H 2 0 (TT_e ⟨by omega, by omega⟩ (fun q => q)) ?_
      · unfold f_L_word
        refine ok_call T (fun r hr' => ?_)
        rw [(hr'.1 hw).2 hr, if_neg (by simp), if_neg (by simp), if_pos rfl]
        exact ok_some (LR_er W I (by omega) _ _ (by omega))
  · refine opt_er H 1 0 (TT_e ⟨by omega, by omega⟩ (fun q => q)) ?_
    · unfold f_L_word
      refine ok_call T (fun r hr' => ?_)
      rw [hr'.2 hw, if_neg (by simp), if_pos rfl]
      exact ok_some (LR_er W I (by omega) _ _ (by omega))
end

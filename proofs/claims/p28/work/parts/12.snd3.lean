/-! ===== arrays, the script, library calls of one step, ends ===== -/
theorem s_iald {Z : Act} {B : Bg} (hC : Cx Z B) {pc L' P : Nat} {L : Lc} {w : Wd} {st : List PV} {i : Int} (hd : decode (mB B.1) pc = .ok (.iaload, 1)) (h0 : 0 ≤ i) (h1 : i < L') (K : GX Z B (pc + 1) L (pvI (w.2.2.2 P i) :: st) w) : GX Z B pc L (pvI i :: pvR 12 L' P :: st) w := by
  obtain ⟨p, l, e, R, s, m, args, below, meth, c, D, cs, A, Q⟩ := Z
  obtain ⟨M, d, w0, al0, o, X, b⟩ := B
  obtain ⟨⟨hx, hb, hml, hown⟩, hts, hA, ⟨hlk, hst, hrt, hin, hex⟩, hMF, hR, hXs⟩ := hC
  intro al H locs la hy
  obtain ⟨y1, y2, y3, y4, y5, y6, y7, y8, y9⟩ := id hy
  have hr : r32 i := all_hd y3
  have hs := PVok.R.mp (all_hd (all_tl y3))
  have KK : W p l e R s m args below meth c H locs (cn w w0) (sn w w0) Q (F0 m (pc + 1) la (.int (Int32.ofInt (w.2.2.2 P i)) :: st.map (vl al b))) := K al H locs la (hy.st (all_cons (y2.2.2.2.1 P 12 L' i hs (Nat.le_refl _)) (all_tl (all_tl y3))))
  refine va_iald hx hb hMF.1 y7 (ix w.2.1 P) 0 (cel_i hs) rfl (i := Int32.ofInt i) (r32_in hr h0 h1) hd ?_
  rw [r32_cl hr h0]
  exact KK
theorem s_lald {Z : Act} {B : Bg} (hC : Cx Z B) {pc L' P : Nat} {L : Lc} {w : Wd} {st : List PV} {i : Int} (hd : decode (mB B.1) pc = .ok (.laload, 1)) (h0 : 0 ≤ i) (h1 : i < L') (K : GX Z B (pc + 1) L (pvL (w.2.2.2 P i) :: st) w) : GX Z B pc L (pvI i :: pvR 13 L' P :: st) w := by
  obtain ⟨p, l, e, R, s, m, args, below, meth, c, D, cs, A, Q⟩ := Z
  obtain ⟨M, d, w0, al0, o, X, b⟩ := B
  obtain ⟨⟨hx, hb, hml, hown⟩, hts, hA, ⟨hlk, hst, hrt, hin, hex⟩, hMF, hR, hXs⟩ := hC
  intro al H locs la hy
  obtain ⟨y1, y2, y3, y4, y5, y6, y7, y8, y9⟩ := id hy
  have hr : r32 i := all_hd y3
  have hs := PVok.R.mp (all_hd (all_tl y3))
  have KK : W p l e R s m args below meth c H locs (cn w w0) (sn w w0) Q (F0 m (pc + 1) la (.long (Int64.ofInt (w.2.2.2 P i)) :: st.map (vl al b))) := K al H locs la (hy.st (all_cons (y2.2.2.2.1 P 13 L' i hs (by omega)) (all_tl (all_tl y3))))
  refine va_lald hx hb hMF.1 y7 (ix w.2.1 P) 1 (cel_l hs) rfl (i := Int32.ofInt i) (r32_in hr h0 h1) hd ?_
  rw [r32_cl hr h0]
  exact KK
theorem s_zald {Z : Act} {B : Bg} (hC : Cx Z B) {pc L' P : Nat} {L : Lc} {w : Wd} {st : List PV} {i : Int} (hd : decode (mB B.1) pc = .ok (.baload, 1)) (h0 : 0 ≤ i) (h1 : i < L') (K : GX Z B (pc + 1) L (pvI (w.2.2.2 P i) :: st) w) : GX Z B pc L (pvI i :: pvR 14 L' P :: st) w := by
  obtain ⟨p, l, e, R, s, m, args, below, meth, c, D, cs, A, Q⟩ := Z
  obtain ⟨M, d, w0, al0, o, X, b⟩ := B
  obtain ⟨⟨hx, hb, hml, hown⟩, hts, hA, ⟨hlk, hst, hrt, hin, hex⟩, hMF, hR, hXs⟩ := hC
  intro al H locs la hy
  obtain ⟨y1, y2, y3, y4, y5, y6, y7, y8, y9⟩ := id hy
  have hr : r32 i := all_hd y3
  have hs := PVok.R.mp (all_hd (all_tl y3))
  have h9 : 0 ≤ w.2.2.2 P i ∧ w.2.2.2 P i ≤ 1 := y2.2.2.2.1 P 14 L' i hs (by omega)
  have KK : W p l e R s m args below meth c H locs (cn w w0) (sn w w0) Q (F0 m (pc + 1) la (.int (Int32.ofInt (w.2.2.2 P i)) :: st.map (vl al b))) := K al H locs la (hy.st (all_cons (show r32 (w.2.2.2 P i) by unfold r32; omega) (all_tl (all_tl y3))))
  refine va_zald hx hb hMF.1 y7 (ix w.2.1 P) 2 (cel_z hs) rfl (i := Int32.ofInt i) (r32_in hr h0 h1) hd ?_
  rw [r32_cl hr h0]
  exact KK
theorem s_fald {Z : Act} {B : Bg} (hC : Cx Z B) {pc L' P : Nat} {L : Lc} {w : Wd} {st : List PV} {i : Int} (hd : decode (mB B.1) pc = .ok (.aaload, 1)) (h0 : 0 ≤ i) (h1 : i < L') (K : GX Z B (pc + 1) L (pvF (w.2.2.2 P i) :: st) w) : GX Z B pc L (pvI i :: pvR 15 L' P :: st) w := by
  obtain ⟨p, l, e, R, s, m, args, below, meth, c, D, cs, A, Q⟩ := Z
  obtain ⟨M, d, w0, al0, o, X, b⟩ := B
  obtain ⟨⟨hx, hb, hml, hown⟩, hts, hA, ⟨hlk, hst, hrt, hin, hex⟩, hMF, hR, hXs⟩ := hC
  intro al H locs la hy
  obtain ⟨y1, y2, y3, y4, y5, y6, y7, y8, y9⟩ := id hy
  have hr : r32 i := all_hd y3
  have hs := PVok.R.mp (all_hd (all_tl y3))
  have KK : W p l e R s m args below meth c H locs (cn w w0) (sn w w0) Q (F0 m (pc + 1) la (va_rf (rfo al (w.2.2.2 P i)) :: st.map (vl al b))) := K al H locs la (hy.st (all_cons (y2.2.2.2.1 P 15 L' i hs (by omega)) (all_tl (all_tl y3))))
  refine va_aldq hx hb hMF.1 y7 (ix w.2.1 P) 3 (cel_f hs) rfl (i := Int32.ofInt i) (r32_in hr h0 h1) hd ?_
  rw [r32_cl hr h0]
  exact KK
theorem s_rald {Z : Act} {B : Bg} (hC : Cx Z B) {pc P : Nat} {L : Lc} {w : Wd} {st : List PV} {i : Int} (hd : decode (mB B.1) pc = .ok (.aaload, 1)) (h0 : 0 ≤ i) (h1 : i < (13 : Nat)) (K : GX Z B (pc + 1) L (pvR 12 144 (P + 1 + i.toNat) :: st) w) : GX Z B pc L (pvI i :: pvR 16 13 P :: st) w := by
  obtain ⟨p, l, e, R, s, m, args, below, meth, c, D, cs, A, Q⟩ := Z
  obtain ⟨M, d, w0, al0, o, X, b⟩ := B
  obtain ⟨⟨hx, hb, hml, hown⟩, hts, hA, ⟨hlk, hst, hrt, hin, hex⟩, hMF, hR, hXs⟩ := hC
  intro al H locs la hy
  obtain ⟨y1, y2, y3, y4, y5, y6, y7, y8, y9⟩ := id hy
  have hr : r32 i := all_hd y3
  have hs := PVok.R.mp (all_hd (all_tl y3))
  have hrow : Sh w.2.1 (P + 1 + i.toNat) 12 144 := by
    cases hm : w.1 with
    | true => exact Sh.row (y2.1 hm) hs (by omega)
    | false =>
      have h3 := y2.2.1 hm
      have hlt := inn_lt hs.1 (by omega)
      have h4 := h3.2 P hlt hs.2.1
      have h5 := Sh.row (n := 171) (i := i.toNat) ⟨0, rfl⟩ (⟨nOk.in ⟨0, rfl⟩ (by omega), hs.2⟩ : Sh 171 P 16 13) (by omega)
      exact ⟨inn_of (by omega) (by omega) (by omega), h5.2⟩
  have hv0 : tyA w.2.1 P 16 13 i (w.2.2.2 P i) := y2.2.2.2.1 P 16 13 i hs (by omega)
  have hv : w.2.2.2 P i = P + 1 + i := hv0 h0 h1
  have KK : W p l e R s m args below meth c H locs (cn w w0) (sn w w0) Q (F0 m (pc + 1) la (.ref (al (P + 1 + i.toNat)) :: st.map (vl al b))) := K al H locs la (hy.st (all_cons (PVok.R.mpr hrow) (all_tl (all_tl y3))))
  have hlt : (Int32.ofInt i).toNatClampNeg < 13 := by rw [r32_clN hr h0]; omega
  have hcell : H[al P]? = some (arrV cs.2.2.2.2 13 fun j => va_rf (rfo al (w.2.2.2 P j))) := y7 (ix w.2.1 P) _ (cel_r hs)
  have harr : s.isArrayOf (arrV cs.2.2.2.2 13 fun j => va_rf (rfo al (w.2.2.2 P j))) (.array .int) := (hMF.1.2 4 (cs.2.2.2.2, .array .int) rfl).1 13 _
  have hval : (arrV cs.2.2.2.2 13 fun j => va_rf (rfo al (w.2.2.2 P j))).slots[(Int32.ofInt i).toNatClampNeg]? = some (.ref (al (P + 1 + i.toNat))) := by
    rw [arrV_read _ _ hlt, r32_cl hr h0, hv]
    unfold rfo
    rw [if_neg (by omega), show ((P : Int) + 1 + i).toNat = P + 1 + i.toNat by omega]
    rfl
  have hsz : ¬ (Int32.ofInt i < 0 ∨ (arrV cs.2.2.2.2 13 fun j => va_rf (rfo al (w.2.2.2 P j))).slots.size ≤ (Int32.ofInt i).toNatClampNeg) := by rw [arrV_size]; exact r32_in hr h0 h1
  exact W.aald hx hb hcell harr rfl (fun q => by cases q) hsz hval rfl rfl hd KK
theorem s_sald {Z : Act} {B : Bg} (hC : Cx Z B) {pc : Nat} {L : Lc} {w : Wd} {st : List PV} {i : Int} {q : Nat × (Nat → Int32)} (hd : decode (mB B.1) pc = .ok (.iaload, 1)) (h0 : 0 ≤ i) (hX : B.2.2.2.2.2.1 = some q) (h1 : i < q.1) (K : GX Z B (pc + 1) L (pvI (q.2 i.toNat).toInt :: st) w) : GX Z B pc L (pvI i :: pvS :: st) w := by
  obtain ⟨p, l, e, R, s, m, args, below, meth, c, D, cs, A, Q⟩ := Z
  obtain ⟨M, d, w0, al0, o, X, b⟩ := B
  obtain ⟨⟨hx, hb, hml, hown⟩, hts, hA, ⟨hlk, hst, hrt, hin, hex⟩, hMF, hR, hXs⟩ := hC
  intro al H locs la hy
  obtain ⟨y1, y2, y3, y4, y5, y6, y7, y8, y9⟩ := id hy
  have hr : r32 i := all_hd y3
  obtain ⟨x1, x2, x3⟩ := hXs q hX
  have KK : W p l e R s m args below meth c H locs (cn w w0) (sn w w0) Q (F0 m (pc + 1) la (.int (Int32.ofInt (q.2 i.toNat).toInt) :: st.map (vl al b))) := K al H locs la (hy.st (all_cons (r32_toInt _) (all_tl (all_tl y3))))
  rw [of_toInt32] at KK
  refine va_sld hx hb x1 x2 x3 y9 (i := Int32.ofInt i) (r32_in hr h0 h1) hd ?_
  rw [r32_clN hr h0]
  exact KK
theorem s_slen {Z : Act} {B : Bg} (hC : Cx Z B) {pc : Nat} {L : Lc} {w : Wd} {st : List PV} {q : Nat × (Nat → Int32)} (hd : decode (mB B.1) pc = .ok (.arraylength, 1)) (hX : B.2.2.2.2.2.1 = some q) (hr : r32 (q.1 : Int)) (K : GX Z B (pc + 1) L (pvI (q.1 : Int) :: st) w) : GX Z B pc L (pvS :: st) w := by
  obtain ⟨p, l, e, R, s, m, args, below, meth, c, D, cs, A, Q⟩ := Z
  obtain ⟨M, d, w0, al0, o, X, b⟩ := B
  obtain ⟨⟨hx, hb, hml, hown⟩, hts, hA, ⟨hlk, hst, hrt, hin, hex⟩, hMF, hR, hXs⟩ := hC
  intro al H locs la hy
  obtain ⟨y1, y2, y3, y4, y5, y6, y7, y8, y9⟩ := id hy
  obtain ⟨x1, x2, x3⟩ := hXs q hX
  have KK : W p l e R s m args below meth c H locs (cn w w0) (sn w w0) Q (F0 m (pc + 1) la (.int (Int32.ofInt (q.1 : Int)) :: st.map (vl al b))) := K al H locs la (hy.st (all_cons hr (all_tl y3)))
  exact va_slen hx hb x1 x2 x3 y9 hd KK
theorem s_alen {Z : Act} {B : Bg} (hC : Cx Z B) {pc L' P : Nat} {L : Lc} {w : Wd} {st : List PV} (hd : decode (mB B.1) pc = .ok (.arraylength, 1)) (hr : r32 (L' : Int)) (K : GX Z B (pc + 1) L (pvI (L' : Int) :: st) w) : GX Z B pc L (pvR 12 L' P :: st) w := by
  obtain ⟨p, l, e, R, s, m, args, below, meth, c, D, cs, A, Q⟩ := Z
  obtain ⟨M, d, w0, al0, o, X, b⟩ := B
  obtain ⟨⟨hx, hb, hml, hown⟩, hts, hA, ⟨hlk, hst, hrt, hin, hex⟩, hMF, hR, hXs⟩ := hC
  intro al H locs la hy
  obtain ⟨y1, y2, y3, y4, y5, y6, y7, y8, y9⟩ := id hy
  have hs := PVok.R.mp (all_hd y3)
  exact va_alen (v := Int32.ofInt (L' : Int)) hx hb hMF.1 y7 (ix w.2.1 P) 0 (cel_i hs) rfl rfl hd (K al H locs la (hy.st (all_cons hr (all_tl y3))))
theorem s_iast {Z : Act} {B : Bg} (hC : Cx Z B) {pc L' P : Nat} {L : Lc} {w : Wd} {st : List PV} {i x : Int} (hd : decode (mB B.1) pc = .ok (.iastore, 1)) (h0 : 0 ≤ i) (h1 : i < L') (K : GX Z B (pc + 1) L st (w.1, w.2.1, w.2.2.1, hset w.2.2.2 P i x)) : GX Z B pc L (pvI x :: pvI i :: pvR 12 L' P :: st) w := by
  obtain ⟨p, l, e, R, s, m, args, below, meth, c, D, cs, A, Q⟩ := Z
  obtain ⟨M, d, w0, al0, o, X, b⟩ := B
  obtain ⟨⟨hx, hb, hml, hown⟩, hts, hA, ⟨hlk, hst, hrt, hin, hex⟩, hMF, hR, hXs⟩ := hC
  intro al H locs la hy
  obtain ⟨y1, y2, y3, y4, y5, y6, y7, y8, y9⟩ := id hy
  have hr : r32 i := all_hd (all_tl y3)
  have hs := PVok.R.mp (all_hd (all_tl (all_tl y3)))
  refine va_iast hx hb hMF.1 y7 y8 y9 (ix w.2.1 P) 0 (cel_i hs) rfl (i := Int32.ofInt i) (x := Int32.ofInt x) (r32_in hr h0 h1) hd (fun H1 locs1 q1 q2 q3 => ?_)
  rw [upd_of hr h0, wsv_set (σ' := hset w.2.2.2 P i x) hs.1 (by simp [cel, hs.2.1, hs.2.2]) (fun q hq => hset_ne hq)] at q1 q2
  exact K al H1 locs1 la ⟨y1, y2.setA hs (by omega) (all_hd y3), all_tl (all_tl (all_tl y3)), y4, y5, y6, q1, q2, q3⟩
theorem s_last {Z : Act} {B : Bg} (hC : Cx Z B) {pc L' P : Nat} {L : Lc} {w : Wd} {st : List PV} {i x : Int} (hd : decode (mB B.1) pc = .ok (.lastore, 1)) (h0 : 0 ≤ i) (h1 : i < L') (K : GX Z B (pc + 1) L st (w.1, w.2.1, w.2.2.1, hset w.2.2.2 P i x)) : GX Z B pc L (pvL x :: pvI i :: pvR 13 L' P :: st) w := by
  obtain ⟨p, l, e, R, s, m, args, below, meth, c, D, cs, A, Q⟩ := Z
  obtain ⟨M, d, w0, al0, o, X, b⟩ := B
  obtain ⟨⟨hx, hb, hml, hown⟩, hts, hA, ⟨hlk, hst, hrt, hin, hex⟩, hMF, hR, hXs⟩ := hC
  intro al H locs la hy
  obtain ⟨y1, y2, y3, y4, y5, y6, y7, y8, y9⟩ := id hy
  have hr : r32 i := all_hd (all_tl y3)
  have hs := PVok.R.mp (all_hd (all_tl (all_tl y3)))
  refine va_last hx hb hMF.1 y7 y8 y9 (ix w.2.1 P) 1 (cel_l hs) rfl (i := Int32.ofInt i) (x := Int64.ofInt x) (r32_in hr h0 h1) hd (fun H1 locs1 q1 q2 q3 => ?_)
  rw [updL_of hr h0, wsv_set (σ' := hset w.2.2.2 P i x) hs.1 (by simp [cel, hs.2.1, hs.2.2]) (fun q hq => hset_ne hq)] at q1 q2
  exact K al H1 locs1 la ⟨y1, y2.setA hs (by omega) (all_hd y3), all_tl (all_tl (all_tl y3)), y4, y5, y6, q1, q2, q3⟩
theorem s_zast {Z : Act} {B : Bg} (hC : Cx Z B) {pc L' P : Nat} {L : Lc} {w : Wd} {st : List PV} {i x : Int} (hd : decode (mB B.1) pc = .ok (.bastore, 1)) (h0 : 0 ≤ i) (h1 : i < L') (hx0 : 0 ≤ x) (hx1 : x ≤ 1) (K : GX Z B (pc + 1) L st (w.1, w.2.1, w.2.2.1, hset w.2.2.2 P i x)) : GX Z B pc L (pvI x :: pvI i :: pvR 14 L' P :: st) w := by
  obtain ⟨p, l, e, R, s, m, args, below, meth, c, D, cs, A, Q⟩ := Z
  obtain ⟨M, d, w0, al0, o, X, b⟩ := B
  obtain ⟨⟨hx, hb, hml, hown⟩, hts, hA, ⟨hlk, hst, hrt, hin, hex⟩, hMF, hR, hXs⟩ := hC
  intro al H locs la hy
  obtain ⟨y1, y2, y3, y4, y5, y6, y7, y8, y9⟩ := id hy
  have hr : r32 i := all_hd (all_tl y3)
  have hs := PVok.R.mp (all_hd (all_tl (all_tl y3)))
  have hn : vp_nar .boolean (Int32.ofInt x) = Int32.ofInt x := by
    rcases (show x = 0 ∨ x = 1 by omega) with rfl | rfl <;> rfl
  refine va_zast hx hb hMF.1 y7 y8 y9 (ix w.2.1 P) 2 (cel_z hs) rfl (i := Int32.ofInt i) (x := Int32.ofInt x) (r32_in hr h0 h1) hd (fun H1 locs1 q1 q2 q3 => ?_)
  rw [hn, upd_of hr h0, wsv_set (σ' := hset w.2.2.2 P i x) hs.1 (by simp [cel, hs.2.1, hs.2.2]) (fun q hq => hset_ne hq)] at q1 q2
  exact K al H1 locs1 la ⟨y1, y2.setA hs (by omega) (show 0 ≤ x ∧ x ≤ 1 from ⟨hx0, hx1⟩), all_tl (all_tl (all_tl y3)), y4, y5, y6, q1, q2, q3⟩
theorem s_fast {Z : Act} {B : Bg} (hC : Cx Z B) {pc L' P : Nat} {L : Lc} {w : Wd} {st : List PV} {i x : Int} (hd : decode (mB B.1) pc = .ok (.aastore, 1)) (h0 : 0 ≤ i) (h1 : i < L') (hx0 : 0 ≤ x) (K : GX Z B (pc + 1) L st (w.1, w.2.1, w.2.2.1, hset w.2.2.2 P i x)) : GX Z B pc L (pvF x :: pvI i :: pvR 15 L' P :: st) w := by
  obtain ⟨p, l, e, R, s, m, args, below, meth, c, D, cs, A, Q⟩ := Z
  obtain ⟨M, d, w0, al0, o, X, b⟩ := B
  obtain ⟨⟨hx, hb, hml, hown⟩, hts, hA, ⟨hlk, hst, hrt, hin, hex⟩, hMF, hR, hXs⟩ := hC
  intro al H locs la hy
  obtain ⟨y1, y2, y3, y4, y5, y6, y7, y8, y9⟩ := id hy
  have hr : r32 i := all_hd (all_tl y3)
  have hs := PVok.R.mp (all_hd (all_tl (all_tl y3)))
  have hf : fOk w.2.1 x := all_hd y3
  have hs2 : Sh w.2.1 x.toNat 2 0 := by
    rcases hf with rfl | ⟨P', rfl, h⟩
    · omega
    · rw [Int.toNat_natCast]; exact h
  have he : vl al b (pvF x) = .ref (al x.toNat) := by show va_rf (rfo al x) = _; unfold rfo; rw [if_neg (by omega)]; rfl
  show W p l e R s m args below meth c H locs (cn w w0) (sn w w0) Q (F0 m pc la (vl al b (pvF x) :: .int (Int32.ofInt i) :: .ref (al P) :: st.map (vl al b)))
  rw [he]
  refine va_astq hx hb hMF.1 y7 y8 y9 (ix w.2.1 P) 3 (ix w.2.1 x.toNat) 2 (cel_f hs) (r := (RX2, TX2, 5)) rfl (cel_o hs2 (by omega)) rfl (i := Int32.ofInt i) (r32_in hr h0 h1) hd (fun H1 locs1 q1 q2 q3 => ?_)
  rw [upF_of hr h0 hx0, wsv_set (σ' := hset w.2.2.2 P i x) hs.1 (by simp [cel, hs.2.1, hs.2.2]) (fun q hq => hset_ne hq)] at q1 q2
  exact K al H1 locs1 la ⟨y1, y2.setA hs (by omega) hf, all_tl (all_tl (all_tl y3)), y4, y5, y6, q1, q2, q3⟩
/-! library calls -/
theorem cn_le {w o w0 : Wd} (h : le w o) : cn w w0 ≤ cn o w0 := by unfold cn; have := cw_mono h.1; have := h.2; omega
theorem sn_le {w o w0 : Wd} (h : le w o) : sn w w0 ≤ sn o w0 := by unfold sn; have := SL_mono h.1; have := h.2; omega
theorem bump (al : Nat → Nat) (b : Nat) {st : List PV} {n k : Nat} (h : catS st ≤ n) : ((st.map (vl al b)).map fun v => v.category).sum + k ≤ n + k := by rw [vl_catS]; omega
theorem s_imax {Z : Act} {B : Bg} (hC : Cx Z B) {pc idx : Nat} {L : Lc} {w : Wd} {st : List PV} {x y : Int} (hd : decode (mB B.1) pc = .ok (.invokestatic idx, 3)) (hl : Cond.methodLink (zOwn (mC B.1)) idx Lib.Math.max.name ∈ lw_good) (hs : catS st ≤ 20) (K : GX Z B (pc + 3) L (pvI (max x y) :: st) w) : GX Z B pc L (pvI y :: pvI x :: st) w := by
  obtain ⟨p, l, e, R, s, m, args, below, meth, c, D, cs, A, Q⟩ := Z
  obtain ⟨M, d, w0, al0, o, X, b⟩ := B
  obtain ⟨⟨hx, hb, hml, hown⟩, hts, hA, ⟨hlk, hst, hrt, hin, hex⟩, hMF, ⟨hR1, hR2, hR3, hR4⟩, hXs⟩ := hC
  intro al H locs la hy
  obtain ⟨y1, y2, y3, y4, y5, y6, y7, y8, y9⟩ := id hy
  have hrx : r32 x := all_hd (all_tl y3)
  have hry : r32 y := all_hd y3
  have hrm : r32 (max x y) := by unfold r32 at hrx hry ⊢; omega
  have KK : W p l e R s m args below meth c H locs (cn w w0) (sn w w0) Q (F0 m (pc + 3) la (.int (Int32.ofInt (max x y)) :: st.map (vl al b))) := K al H locs la (hy.st (all_cons hrm (all_tl (all_tl y3))))
  refine va_mmax (x := Int32.ofInt x) (y := Int32.ofInt y) hx hb (hml.trans y6.2.1.symm) hown (hts _ hl) (hts _ (by decide +kernel)) (hts _ (by decide +kernel)) (hts _ (by decide +kernel)) (by omega) (Nat.le_trans (bump al b hs) (by omega)) (Nat.le_trans (cn_le y1.2) hR3) (Nat.le_trans (sn_le y1.2) hR4) hd ?_
  by_cases h : x < y
  · rw [if_pos ((i_lt hrx hry).mpr h)]
    rw [show max x y = y by omega] at KK
    exact KK
  · rw [if_neg (fun z => h ((i_lt hrx hry).mp z))]
    rw [show max x y = x by omega] at KK
    exact KK

/-! ===== calls, made ===== -/
theorem s_callV {Z : Act} {B : Bg} (hC : Cx Z B) {pc idx kc : Nat} {L : Lc} {w : Wd} {as r : List PV} {o : Out} {Mc : Mt} (hd : decode (mB B.1) pc = .ok (.invokevirtual idx, 3)) (hf : rMth (mC B.1) idx = some (0, kc)) (hMc : mtab[kc]? = some Mc) (hlen : as.length = mA Mc) (hns : nos as = true) (hcs : catS r ≤ 8) (h12 : mC Mc < 11) (hrc : ∃ (a : PV) (as' : List PV) (P : Nat), as = a :: as' ∧ rcv a (mC Mc) P) (hE : Ctr (Z.2.1) B.2.1 kc as w o) (hle : le w o.2.2) (hlo : le o.2.2 B.2.2.2.2.1) (hk : Aft Z B pc L r o) : GX Z B pc L (as.reverse ++ r) w := by
  obtain ⟨p, l, e, R, s, m, args, below, meth, c, D, cs, A, Q⟩ := Z
  obtain ⟨M, d, w0, al0, wo, X, b⟩ := B
  obtain ⟨⟨hx, hb, hml, hown⟩, hts, hA, ⟨hlk, hst, hrt, hin, hex⟩, hMF, ⟨hR1, hR2, hR3, hR4⟩, hXs⟩ := id hC
  intro al H locs la hy
  obtain ⟨y1, y2, y3, y4, y5, y6, y7, y8, y9⟩ := id hy
  have hE := hE Mc hMc y2 (fun v hv => y3 v (List.mem_append_left _ (List.mem_reverse.mpr hv))) D cs al H.size
  have hlo : le o.2.2 wo := hlo
  have hr0 : ∀ v ∈ r, PVok w.2.1 v := fun v hv => y3 v (List.mem_append_right _ hv)
  have h1 := List.all_eq_true.mp mc_ok _ (find_mem hf)
  simp [mcOk] at h1
  have hkc := h1.1
  have hMM := mtM_of hMc
  rw [hMM] at h1
  obtain ⟨m1, m2, m3, m4, m5, m6⟩ := mt_word hkc hMc
  have hc9 := cn_trans y1.1 hle
  have hs9 := sn_trans y1.1 hle
  have hc8 := cn_le (w0 := w0) hlo
  have hs8 := sn_le (w0 := w0) hlo
  have hzA : ∀ q, zA al w.2.1 H.size q → A q := zA_mono (va_D_al y8) (fun q hq => hA q (Nat.le_trans y9.1 hq))
  have hpre : ∀ U : State, U.heap = H → s.WarmedH U.vm → PreC D cs al w.2.1 w.2.2.2 H.size U := fun U hU hW =>
    ⟨by rw [hU], by rw [hU]; exact y7, va_D_zA y8, by
      rw [hU]
      refine MF.warm hW (MF.narrow hzA ⟨hMF.1, hMF.2.1, hMF.2.2.1, hMF.2.2.2.1, hMF.2.2.2.2.1, hMF.2.2.2.2.2.1.kept y9.2.1, hMF.2.2.2.2.2.2.1.kept y9.2.1, hMF.2.2.2.2.2.2.2⟩)⟩
  have hav : ∀ v ∈ as, vl al b v = vl al 0 v := fun v hv => by
    have := List.all_eq_true.mp hns v hv
    exact vl_b (by simpa using this)
  have hmap : as.map (vl al b) = as.map (vl al 0) := List.map_congr_left hav
  have hcat : ((r.map (vl al b)).map fun v => v.category).sum ≤ 8 := by rw [vl_catS]; exact hcs
  have hpay : ∀ x ∈ wsG (mw Mc), ∀ (a' : Array Value) (U : State), s.WarmedH U.vm → x.before a' U = true := pay_in hts (goodIn_all (wsG_in m1))
  obtain ⟨a0, as', P, rfl, hrc⟩ := hrc
  obtain ⟨hsh, hva⟩ := rcv_ok (al := al) (b := b) hrc (y3 a0 (List.mem_append_left _ (List.mem_reverse.mpr List.mem_cons_self)))
  have hst9 : ((a0 :: as').reverse ++ r).map (vl al b) = (as'.map (vl al b)).reverse ++ .ref (al P) :: r.map (vl al b) := by
    rw [List.map_append, List.map_reverse, List.map_cons, List.reverse_cons, hva, List.append_assoc]
    rfl
  have hmc12 : mC Mc < 11 := h12
  obtain ⟨q9, hq9⟩ : ∃ q, vwCl[mC Mc]? = some q := ⟨_, List.getElem?_eq_getElem (show mC Mc < vwCl.length from hmc12)⟩
  have hq1 : q9.1 = (mY Mc).cls := by
    rw [m3]
    have h3 := List.all_eq_true.mp ty_ok (mC Mc) (List.mem_range.mpr hmc12)
    unfold tyOk at h3
    rw [hq9] at h3
    simp only [Bool.and_eq_true, decide_eq_true_eq] at h3
    exact h3.1
  have hrv := va_recv (a := al P) hMF.1 y7 hq9 (cel_o hsh (Nat.lt_succ_of_lt hmc12))
  rw [hq1] at hrv
  have hpr : va_Pc ((a0 :: as').map (vl al 0)) (PreC D cs al w.2.1 w.2.2.2 H.size) = va_Pc (.ref (al P) :: as'.map (vl al b)) (PreC D cs al w.2.1 w.2.2.2 H.size) := by
    rw [← hmap, List.map_cons, hva]
  rw [hpr] at hE
  have hlen2 : (as'.map (vl al b)).length + 1 = mA Mc := by rw [List.length_map]; exact hlen
  rw [hst9]
  obtain ⟨-, hi1, hi2, hi3, hi4⟩ := h1
  have wi := mt_inst hi1
  have wsel := mt_sel hi2
  rw [hMM] at wi wsel
  have wl := mc_linkw hf (Or.inr (by omega))
  rw [if_neg (by omega), hMM] at wl
  have hw9 : mw Mc = .code (mY Mc) (mB Mc) (mL Mc) (mR Mc) := by unfold mw; rw [hi3]
  have hcode : Cond.code (mY Mc) (mB Mc) (mL Mc) (mR Mc) ∈ wsG (mw Mc) := by rw [hw9]; exact List.mem_cons_self
  have cw : CallW R s args (zOwn (mC M)) (mY Mc).cls idx (mY Mc) (mB Mc) (mL Mc) (mR Mc) (wsG (mw Mc)) (rmD d w o.2.2) (cn o.2.2 w) (sn o.2.2 w) (as'.map (vl al b)).length :=
    ⟨⟨rfl, rfl, by show d + 7 + 1 ≤ _; omega, by show 8 + (mL Mc + 11) + (60 * d + 90) ≤ _; omega, hpay, hcode, hts _ (wsG_in m1 _ hcode), hts _ m2, m4, fun sig hsig => by rw [hsig] at hi4; simp at hi4; omega, hts _ wl⟩, hts _ wi, hts _ wsel⟩
  have hr := vx_runV (g := F0 m pc la ((as'.map (vl al b)).reverse ++ .ref (al P) :: r.map (vl al b))) (rest := r.map (vl al b)) (locs := locs) (cells := cn w w0) (slots := sn w w0) (e := e) (below := below) (meth := meth) ⟨hx, hb, hml, hown, hts⟩ hE cw ⟨preC_blind, hrv, fun U hU hW => ⟨rfl, hpre U hU hW⟩⟩ rfl rfl y6.2.1 rfl (lv_room hcat) hd ⟨by omega, by omega⟩
  exact s_cont hC hy hr0 hle hlo hr hk
theorem s_callI {Z : Act} {B : Bg} (hC : Cx Z B) {pc idx kc : Nat} {L : Lc} {w : Wd} {as r : List PV} {o : Out} {Mc : Mt} (hd : decode (mB B.1) pc = .ok (.invokespecial idx, 3)) (hf : rMth (mC B.1) idx = some (2, kc)) (hMc : mtab[kc]? = some Mc) (hlen : as.length = mA Mc) (hns : nos as = true) (hcs : catS r ≤ 8) (h12 : mC Mc < 11) (hrc : ∃ (a : PV) (as' : List PV) (P : Nat), as = a :: as' ∧ rcv a (mC Mc) P) (ho0 : o.1 = 0) (hE : Ctr (Z.2.1) B.2.1 kc as w o) (hle : le w o.2.2) (hlo : le o.2.2 B.2.2.2.2.1) (hk : Aft Z B pc L r o) : GX Z B pc L (as.reverse ++ r) w := by
  obtain ⟨p, l, e, R, s, m, args, below, meth, c, D, cs, A, Q⟩ := Z
  obtain ⟨M, d, w0, al0, wo, X, b⟩ := B
  obtain ⟨⟨hx, hb, hml, hown⟩, hts, hA, ⟨hlk, hst, hrt, hin, hex⟩, hMF, ⟨hR1, hR2, hR3, hR4⟩, hXs⟩ := id hC
  intro al H locs la hy
  obtain ⟨y1, y2, y3, y4, y5, y6, y7, y8, y9⟩ := id hy
  have hE := hE Mc hMc y2 (fun v hv => y3 v (List.mem_append_left _ (List.mem_reverse.mpr hv))) D cs al H.size
  have hlo : le o.2.2 wo := hlo
  have hr0 : ∀ v ∈ r, PVok w.2.1 v := fun v hv => y3 v (List.mem_append_right _ hv)
  have h1 := List.all_eq_true.mp mc_ok _ (find_mem hf)
  simp [mcOk] at h1
  have hkc := h1.1
  have hMM := mtM_of hMc
  rw [hMM] at h1
  obtain ⟨m1, m2, m3, m4, m5, m6⟩ := mt_word hkc hMc
  have hc9 := cn_trans y1.1 hle
  have hs9 := sn_trans y1.1 hle
  have hc8 := cn_le (w0 := w0) hlo
  have hs8 := sn_le (w0 := w0) hlo
  have hzA : ∀ q, zA al w.2.1 H.size q → A q := zA_mono (va_D_al y8) (fun q hq => hA q (Nat.le_trans y9.1 hq))
  have hpre : ∀ U : State, U.heap = H → s.WarmedH U.vm → PreC D cs al w.2.1 w.2.2.2 H.size U := fun U hU hW =>
    ⟨by rw [hU], by rw [hU]; exact y7, va_D_zA y8, by
      rw [hU]
      refine MF.warm hW (MF.narrow hzA ⟨hMF.1, hMF.2.1, hMF.2.2.1, hMF.2.2.2.1, hMF.2.2.2.2.1, hMF.2.2.2.2.2.1.kept y9.2.1, hMF.2.2.2.2.2.2.1.kept y9.2.1, hMF.2.2.2.2.2.2.2⟩)⟩
  have hav : ∀ v ∈ as, vl al b v = vl al 0 v := fun v hv => by
    have := List.all_eq_true.mp hns v hv
    exact vl_b (by simpa using this)
  have hmap : as.map (vl al b) = as.map (vl al 0) := List.map_congr_left hav
  have hcat : ((r.map (vl al b)).map fun v => v.category).sum ≤ 8 := by rw [vl_catS]; exact hcs
  have hpay : ∀ x ∈ wsG (mw Mc), ∀ (a' : Array Value) (U : State), s.WarmedH U.vm → x.before a' U = true := pay_in hts (goodIn_all (wsG_in m1))
  obtain ⟨a0, as', P, rfl, hrc⟩ := hrc
  obtain ⟨hsh, hva⟩ := rcv_ok (al := al) (b := b) hrc (y3 a0 (List.mem_append_left _ (List.mem_reverse.mpr List.mem_cons_self)))
  have hst9 : ((a0 :: as').reverse ++ r).map (vl al b) = (as'.map (vl al b)).reverse ++ .ref (al P) :: r.map (vl al b) := by
    rw [List.map_append, List.map_reverse, List.map_cons, List.reverse_cons, hva, List.append_assoc]
    rfl
  have hmc12 : mC Mc < 11 := h12
  obtain ⟨q9, hq9⟩ : ∃ q, vwCl[mC Mc]? = some q := ⟨_, List.getElem?_eq_getElem (show mC Mc < vwCl.length from hmc12)⟩
  have hq1 : q9.1 = (mY Mc).cls := by
    rw [m3]
    have h3 := List.all_eq_true.mp ty_ok (mC Mc) (List.mem_range.mpr hmc12)
    unfold tyOk at h3
    rw [hq9] at h3
    simp only [Bool.and_eq_true, decide_eq_true_eq] at h3
    exact h3.1
  have hrv := va_recv (a := al P) hMF.1 y7 hq9 (cel_o hsh (Nat.lt_succ_of_lt hmc12))
  rw [hq1] at hrv
  have hpr : va_Pc ((a0 :: as').map (vl al 0)) (PreC D cs al w.2.1 w.2.2.2 H.size) = va_Pc (.ref (al P) :: as'.map (vl al b)) (PreC D cs al w.2.1 w.2.2.2 H.size) := by
    rw [← hmap, List.map_cons, hva]
  rw [hpr] at hE
  have hlen2 : (as'.map (vl al b)).length + 1 = mA Mc := by rw [List.length_map]; exact hlen
  rw [hst9]
  obtain ⟨-, hi1, hi2, hi5, hi3, hi4⟩ := h1
  have wi := mt_inst hi1
  rw [hMM] at wi
  have wl := mc_linkw hf (Or.inr (by omega))
  rw [if_neg (by omega), hMM] at wl
  have hw9 : mw Mc = .code (mY Mc) (mB Mc) (mL Mc) (mR Mc) := by unfold mw; rw [hi3]
  rw [hi5] at hw9
  have hcode : Cond.code (mY Mc) (mB Mc) (mL Mc) none ∈ wsG (mw Mc) := by rw [hw9]; exact List.mem_cons_self
  have ho0 : o.1 = 0 := ho0
  have hE2 := Met_vx hE (CX_no ho0)
  have cw : CallB R s args (zOwn (mC M)) idx (mY Mc) (mB Mc) (mL Mc) none (wsG (mw Mc)) (rmD d w o.2.2) (cn o.2.2 w) (sn o.2.2 w) (as'.map (vl al b)).length ∧ (mY Mc).name = "<init>" ∧ (Cond.instanceMethod (mY Mc)).before args s = true :=
    ⟨⟨rfl, rfl, by show d + 7 + 1 ≤ _; omega, by show 8 + (mL Mc + 11) + (60 * d + 90) ≤ _; omega, hpay, hcode, hts _ (wsG_in m1 _ hcode), hts _ m2, m4, fun sig hsig => by rw [hsig] at hi4; simp at hi4; omega, hts _ wl⟩, hi2, hts _ wi⟩
  have hr := run_vx (XC := CX D cs al (zA al w.2.1 H.size) w o) (va_runI (g := F0 m pc la ((as'.map (vl al b)).reverse ++ .ref (al P) :: r.map (vl al b))) (rest := r.map (vl al b)) (locs := locs) (cells := cn w w0) (slots := sn w w0) (e := e) (below := below) (meth := meth) ⟨hx, hb, hml, hown, hts⟩ hE2 cw ⟨preC_blind, fun U hU hW => ⟨rfl, hpre U hU hW⟩⟩ rfl rfl y6.2.1 rfl (lv_room hcat) hd ⟨by omega, by omega⟩)
  exact s_cont hC hy hr0 hle hlo hr hk
theorem s_callIN {Z : Act} {B : Bg} (hC : Cx Z B) {pc idx kc : Nat} {L : Lc} {w : Wd} {as r : List PV} {o : Out} {Mc : Mt} (hd : decode (mB B.1) pc = .ok (.invokespecial idx, 3)) (hf : rMth (mC B.1) idx = some (5, kc)) (hMc : mtab[kc]? = some Mc) (hlen : as.length = mA Mc) (hns : nos as = true) (hcs : catS r ≤ 8) (h12 : mC Mc < 11) (hrc : ∃ (a : PV) (as' : List PV) (P : Nat), as = a :: as' ∧ rcv a (mC Mc) P) (ho0 : o.1 = 0) (hE : Ctr (Z.2.1) B.2.1 kc as w o) (hle : le w o.2.2) (hlo : le o.2.2 B.2.2.2.2.1) (hk : Aft Z B pc L r o) : GX Z B pc L (as.reverse ++ r) w := by
  obtain ⟨p, l, e, R, s, m, args, below, meth, c, D, cs, A, Q⟩ := Z
  obtain ⟨M, d, w0, al0, wo, X, b⟩ := B
  obtain ⟨⟨hx, hb, hml, hown⟩, hts, hA, ⟨hlk, hst, hrt, hin, hex⟩, hMF, ⟨hR1, hR2, hR3, hR4⟩, hXs⟩ := id hC
  intro al H locs la hy
  obtain ⟨y1, y2, y3, y4, y5, y6, y7, y8, y9⟩ := id hy
  have hE := hE Mc hMc y2 (fun v hv => y3 v (List.mem_append_left _ (List.mem_reverse.mpr hv))) D cs al H.size
  have hlo : le o.2.2 wo := hlo
  have hr0 : ∀ v ∈ r, PVok w.2.1 v := fun v hv => y3 v (List.mem_append_right _ hv)
  have h1 := List.all_eq_true.mp mc_ok _ (find_mem hf)
  simp [mcOk] at h1
  have hkc := h1.1
  have hMM := mtM_of hMc
  rw [hMM] at h1
  obtain ⟨m1, m2, m3, m4, m5, m6⟩ := mt_word hkc hMc
  have hc9 := cn_trans y1.1 hle
  have hs9 := sn_trans y1.1 hle
  have hc8 := cn_le (w0 := w0) hlo
  have hs8 := sn_le (w0 := w0) hlo
  have hzA : ∀ q, zA al w.2.1 H.size q → A q := zA_mono (va_D_al y8) (fun q hq => hA q (Nat.le_trans y9.1 hq))
  have hpre : ∀ U : State, U.heap = H → s.WarmedH U.vm → PreC D cs al w.2.1 w.2.2.2 H.size U := fun U hU hW =>
    ⟨by rw [hU], by rw [hU]; exact y7, va_D_zA y8, by
      rw [hU]
      refine MF.warm hW (MF.narrow hzA ⟨hMF.1, hMF.2.1, hMF.2.2.1, hMF.2.2.2.1, hMF.2.2.2.2.1, hMF.2.2.2.2.2.1.kept y9.2.1, hMF.2.2.2.2.2.2.1.kept y9.2.1, hMF.2.2.2.2.2.2.2⟩)⟩
  have hav : ∀ v ∈ as, vl al b v = vl al 0 v := fun v hv => by
    have := List.all_eq_true.mp hns v hv
    exact vl_b (by simpa using this)
  have hmap : as.map (vl al b) = as.map (vl al 0) := List.map_congr_left hav
  have hcat : ((r.map (vl al b)).map fun v => v.category).sum ≤ 8 := by rw [vl_catS]; exact hcs
  have hpay : ∀ x ∈ wsG (mw Mc), ∀ (a' : Array Value) (U : State), s.WarmedH U.vm → x.before a' U = true := pay_in hts (goodIn_all (wsG_in m1))
  obtain ⟨a0, as', P, rfl, hrc⟩ := hrc
  obtain ⟨hsh, hva⟩ := rcv_ok (al := al) (b := b) hrc (y3 a0 (List.mem_append_left _ (List.mem_reverse.mpr List.mem_cons_self)))
  have hst9 : ((a0 :: as').reverse ++ r).map (vl al b) = (as'.map (vl al b)).reverse ++ .ref (al P) :: r.map (vl al b) := by
    rw [List.map_append, List.map_reverse, List.map_cons, List.reverse_cons, hva, List.append_assoc]
    rfl
  have hmc12 : mC Mc < 11 := h12
  obtain ⟨q9, hq9⟩ : ∃ q, vwCl[mC Mc]? = some q := ⟨_, List.getElem?_eq_getElem (show mC Mc < vwCl.length from hmc12)⟩
  have hq1 : q9.1 = (mY Mc).cls := by
    rw [m3]
    have h3 := List.all_eq_true.mp ty_ok (mC Mc) (List.mem_range.mpr hmc12)
    unfold tyOk at h3
    rw [hq9] at h3
    simp only [Bool.and_eq_true, decide_eq_true_eq] at h3
    exact h3.1
  have hrv := va_recv (a := al P) hMF.1 y7 hq9 (cel_o hsh (Nat.lt_succ_of_lt hmc12))
  rw [hq1] at hrv
  have hpr : va_Pc ((a0 :: as').map (vl al 0)) (PreC D cs al w.2.1 w.2.2.2 H.size) = va_Pc (.ref (al P) :: as'.map (vl al b)) (PreC D cs al w.2.1 w.2.2.2 H.size) := by
    rw [← hmap, List.map_cons, hva]
  rw [hpr] at hE
  have hlen2 : (as'.map (vl al b)).length + 1 = mA Mc := by rw [List.length_map]; exact hlen
  rw [hst9]
  obtain ⟨-, hi1, hi2, hi5, hi3, hi4⟩ := h1
  have wi := mt_inst hi1
  rw [hMM] at wi
  have wl := mc_nestw hf (by omega)
  rw [hMM] at wl
  have hw9 : mw Mc = .code (mY Mc) (mB Mc) (mL Mc) (mR Mc) := by unfold mw; rw [hi3]
  rw [hi5] at hw9
  have hcode : Cond.code (mY Mc) (mB Mc) (mL Mc) none ∈ wsG (mw Mc) := by rw [hw9]; exact List.mem_cons_self
  have ho0 : o.1 = 0 := ho0
  have hE2 := Met_vx hE (CX_no ho0)
  have cw : va_CN R s args (zOwn (mC M)) idx (mY Mc) "Cubecaller" (mB Mc) (mL Mc) none (wsG (mw Mc)) (rmD d w o.2.2) (cn o.2.2 w) (sn o.2.2 w) (as'.map (vl al b)).length ∧ (mY Mc).name = "<init>" ∧ (Cond.instanceMethod (mY Mc)).before args s = true :=
    ⟨⟨⟨rfl, rfl, by show d + 7 + 1 ≤ _; omega, by show 8 + (mL Mc + 11) + (60 * d + 90) ≤ _; omega, hpay, hcode⟩, hts _ (wsG_in m1 _ hcode), hts _ m2, m4, fun sig hsig => by rw [hsig] at hi4; simp at hi4; omega, va_Nw.use rfl (hMF.2.1 _ wl)⟩, hi2, hts _ wi⟩
  have hr := run_vx (XC := CX D cs al (zA al w.2.1 H.size) w o) (va_runIN (g := F0 m pc la ((as'.map (vl al b)).reverse ++ .ref (al P) :: r.map (vl al b))) (rest := r.map (vl al b)) (locs := locs) (cells := cn w w0) (slots := sn w w0) (e := e) (below := below) (meth := meth) ⟨hx, hb, hml, hown, hts⟩ hE2 cw ⟨preC_blind, fun U hU hW => ⟨rfl, hpre U hU hW⟩⟩ rfl rfl y6.2.1 rfl (lv_room hcat) hd ⟨by omega, by omega⟩)
  exact s_cont hC hy hr0 hle hlo hr hk
theorem s_callS {Z : Act} {B : Bg} (hC : Cx Z B) {pc idx kc : Nat} {L : Lc} {w : Wd} {as r : List PV} {o : Out} {Mc : Mt} (hd : decode (mB B.1) pc = .ok (.invokestatic idx, 3)) (hf : rMth (mC B.1) idx = some (1, kc)) (hMc : mtab[kc]? = some Mc) (hlen : as.length = mA Mc) (hns : nos as = true) (hcs : catS r ≤ 8) (hE : Ctr (Z.2.1) B.2.1 kc as w o) (hle : le w o.2.2) (hlo : le o.2.2 B.2.2.2.2.1) (hk : Aft Z B pc L r o) : GX Z B pc L (as.reverse ++ r) w := by
  obtain ⟨p, l, e, R, s, m, args, below, meth, c, D, cs, A, Q⟩ := Z
  obtain ⟨M, d, w0, al0, wo, X, b⟩ := B
  obtain ⟨⟨hx, hb, hml, hown⟩, hts, hA, ⟨hlk, hst, hrt, hin, hex⟩, hMF, ⟨hR1, hR2, hR3, hR4⟩, hXs⟩ := id hC
  intro al H locs la hy
  obtain ⟨y1, y2, y3, y4, y5, y6, y7, y8, y9⟩ := id hy
  have hE := hE Mc hMc y2 (fun v hv => y3 v (List.mem_append_left _ (List.mem_reverse.mpr hv))) D cs al H.size
  have hlo : le o.2.2 wo := hlo
  have hr0 : ∀ v ∈ r, PVok w.2.1 v := fun v hv => y3 v (List.mem_append_right _ hv)
  have h1 := List.all_eq_true.mp mc_ok _ (find_mem hf)
  simp [mcOk] at h1
  have hkc := h1.1
  have hMM := mtM_of hMc
  rw [hMM] at h1
  obtain ⟨m1, m2, m3, m4, m5, m6⟩ := mt_word hkc hMc
  have hc9 := cn_trans y1.1 hle
  have hs9 := sn_trans y1.1 hle
  have hc8 := cn_le (w0 := w0) hlo
  have hs8 := sn_le (w0 := w0) hlo
  have hzA : ∀ q, zA al w.2.1 H.size q → A q := zA_mono (va_D_al y8) (fun q hq => hA q (Nat.le_trans y9.1 hq))
  have hpre : ∀ U : State, U.heap = H → s.WarmedH U.vm → PreC D cs al w.2.1 w.2.2.2 H.size U := fun U hU hW =>
    ⟨by rw [hU], by rw [hU]; exact y7, va_D_zA y8, by
      rw [hU]
      refine MF.warm hW (MF.narrow hzA ⟨hMF.1, hMF.2.1, hMF.2.2.1, hMF.2.2.2.1, hMF.2.2.2.2.1, hMF.2.2.2.2.2.1.kept y9.2.1, hMF.2.2.2.2.2.2.1.kept y9.2.1, hMF.2.2.2.2.2.2.2⟩)⟩
  have hav : ∀ v ∈ as, vl al b v = vl al 0 v := fun v hv => by
    have := List.all_eq_true.mp hns v hv
    exact vl_b (by simpa using this)
  have hmap : as.map (vl al b) = as.map (vl al 0) := List.map_congr_left hav
  have hcat : ((r.map (vl al b)).map fun v => v.category).sum ≤ 8 := by rw [vl_catS]; exact hcs
  have hpay : ∀ x ∈ wsG (mw Mc), ∀ (a' : Array Value) (U : State), s.WarmedH U.vm → x.before a' U = true := pay_in hts (goodIn_all (wsG_in m1))
  have hst9 : (as.reverse ++ r).map (vl al b) = (as.map (vl al b)).reverse ++ r.map (vl al b) := by
    rw [List.map_append, List.map_reverse]
  have hpr : va_Pc (as.map (vl al 0)) (PreC D cs al w.2.1 w.2.2.2 H.size) = va_Pc (as.map (vl al b)) (PreC D cs al w.2.1 w.2.2.2 H.size) := by rw [hmap]
  rw [hpr] at hE
  have hlen2 : (as.map (vl al b)).length = mA Mc := by rw [List.length_map]; exact hlen
  rw [hst9]
  obtain ⟨-, hi1, hi4⟩ := h1
  have wi := mt_stat hi1
  rw [hMM] at wi
  have wl := mc_linkw hf (Or.inr (by omega))
  rw [if_neg (by omega), hMM] at wl
  cases hH : mH Mc with
  | nil =>
    have hw9 : mw Mc = .code (mY Mc) (mB Mc) (mL Mc) (mR Mc) := by unfold mw; rw [hH]
    have hcode : Cond.code (mY Mc) (mB Mc) (mL Mc) (mR Mc) ∈ wsG (mw Mc) := by rw [hw9]; exact List.mem_cons_self
    have cw : CallB R s args (zOwn (mC M)) idx (mY Mc) (mB Mc) (mL Mc) (mR Mc) (wsG (mw Mc)) (rmD d w o.2.2) (cn o.2.2 w) (sn o.2.2 w) (as.map (vl al b)).length ∧ (Cond.static (mY Mc)).before args s = true :=
      ⟨⟨rfl, rfl, by show d + 7 + 1 ≤ _; omega, by show 8 + (mL Mc + 11) + (60 * d + 90) ≤ _; omega, hpay, hcode, hts _ (wsG_in m1 _ hcode), hts _ m2, m4, fun sig hsig => by rw [hsig] at hi4; simp at hi4; omega, hts _ wl⟩, hts _ wi⟩
    have hr := vx_runS (g := F0 m pc la ((as.map (vl al b)).reverse ++ r.map (vl al b))) (rest := r.map (vl al b)) (locs := locs) (cells := cn w w0) (slots := sn w w0) (e := e) (below := below) (meth := meth) ⟨hx, hb, hml, hown, hts⟩ hE cw ⟨preC_blind, fun U hU hW => ⟨rfl, hpre U hU hW⟩⟩ rfl rfl y6.2.1 rfl (lv_room hcat) hd ⟨by omega, by omega⟩
    exact s_cont hC hy hr0 hle hlo hr hk
  | cons h9 r9 =>
    have hw9 : mw Mc = .codeWith (mY Mc) (mB Mc) (mL Mc) (mR Mc) (h9 :: r9) := by unfold mw; rw [hH]
    have hcode : Cond.codeWith (mY Mc) (mB Mc) (mL Mc) (mR Mc) (h9 :: r9) ∈ wsG (mw Mc) := by rw [hw9]; exact List.mem_cons_self
    have cw : vx_CSW R s args (zOwn (mC M)) idx (mY Mc) (mB Mc) (mL Mc) (mR Mc) (h9 :: r9) (wsG (mw Mc)) (rmD d w o.2.2) (cn o.2.2 w) (sn o.2.2 w) (as.map (vl al b)).length :=
      ⟨⟨rfl, rfl, by show d + 7 + 1 ≤ _; omega, by show 8 + (mL Mc + 11) + (60 * d + 90) ≤ _; omega, hpay, hcode⟩, hts _ (wsG_in m1 _ hcode), hts _ m2, m4, fun sig hsig => by rw [hsig] at hi4; simp at hi4; omega, hts _ wl, hts _ wi⟩
    have hr := vx_runSX (g := F0 m pc la ((as.map (vl al b)).reverse ++ r.map (vl al b))) (rest := r.map (vl al b)) (locs := locs) (cells := cn w w0) (slots := sn w w0) (e := e) (below := below) (meth := meth) ⟨hx, hb, hml, hown, hts⟩ hE cw ⟨preC_blind, fun U hU hW => ⟨rfl, hpre U hU hW⟩⟩ rfl rfl y6.2.1 rfl (lv_room hcat) hd ⟨by omega, by omega⟩
    exact s_cont hC hy hr0 hle hlo hr hk
theorem s_callSN {Z : Act} {B : Bg} (hC : Cx Z B) {pc idx kc : Nat} {L : Lc} {w : Wd} {as r : List PV} {o : Out} {Mc : Mt} (hd : decode (mB B.1) pc = .ok (.invokestatic idx, 3)) (hf : rMth (mC B.1) idx = some (4, kc)) (hMc : mtab[kc]? = some Mc) (hlen : as.length = mA Mc) (hns : nos as = true) (hcs : catS r ≤ 8) (ho0 : o.1 = 0) (hE : Ctr (Z.2.1) B.2.1 kc as w o) (hle : le w o.2.2) (hlo : le o.2.2 B.2.2.2.2.1) (hk : Aft Z B pc L r o) : GX Z B pc L (as.reverse ++ r) w := by
  obtain ⟨p, l, e, R, s, m, args, below, meth, c, D, cs, A, Q⟩ := Z
  obtain ⟨M, d, w0, al0, wo, X, b⟩ := B
  obtain ⟨⟨hx, hb, hml, hown⟩, hts, hA, ⟨hlk, hst, hrt, hin, hex⟩, hMF, ⟨hR1, hR2, hR3, hR4⟩, hXs⟩ := id hC
  intro al H locs la hy
  obtain ⟨y1, y2, y3, y4, y5, y6, y7, y8, y9⟩ := id hy
  have hE := hE Mc hMc y2 (fun v hv => y3 v (List.mem_append_left _ (List.mem_reverse.mpr hv))) D cs al H.size
  have hlo : le o.2.2 wo := hlo
  have hr0 : ∀ v ∈ r, PVok w.2.1 v := fun v hv => y3 v (List.mem_append_right _ hv)
  have h1 := List.all_eq_true.mp mc_ok _ (find_mem hf)
  simp [mcOk] at h1
  have hkc := h1.1
  have hMM := mtM_of hMc
  rw [hMM] at h1
  obtain ⟨m1, m2, m3, m4, m5, m6⟩ := mt_word hkc hMc
  have hc9 := cn_trans y1.1 hle
  have hs9 := sn_trans y1.1 hle
  have hc8 := cn_le (w0 := w0) hlo
  have hs8 := sn_le (w0 := w0) hlo
  have hzA : ∀ q, zA al w.2.1 H.size q → A q := zA_mono (va_D_al y8) (fun q hq => hA q (Nat.le_trans y9.1 hq))
  have hpre : ∀ U : State, U.heap = H → s.WarmedH U.vm → PreC D cs al w.2.1 w.2.2.2 H.size U := fun U hU hW =>
    ⟨by rw [hU], by rw [hU]; exact y7, va_D_zA y8, by
      rw [hU]
      refine MF.warm hW (MF.narrow hzA ⟨hMF.1, hMF.2.1, hMF.2.2.1, hMF.2.2.2.1, hMF.2.2.2.2.1, hMF.2.2.2.2.2.1.kept y9.2.1, hMF.2.2.2.2.2.2.1.kept y9.2.1, hMF.2.2.2.2.2.2.2⟩)⟩
  have hav : ∀ v ∈ as, vl al b v = vl al 0 v := fun v hv => by
    have := List.all_eq_true.mp hns v hv
    exact vl_b (by simpa using this)
  have hmap : as.map (vl al b) = as.map (vl al 0) := List.map_congr_left hav
  have hcat : ((r.map (vl al b)).map fun v => v.category).sum ≤ 8 := by rw [vl_catS]; exact hcs
  have hpay : ∀ x ∈ wsG (mw Mc), ∀ (a' : Array Value) (U : State), s.WarmedH U.vm → x.before a' U = true := pay_in hts (goodIn_all (wsG_in m1))
  have hst9 : (as.reverse ++ r).map (vl al b) = (as.map (vl al b)).reverse ++ r.map (vl al b) := by
    rw [List.map_append, List.map_reverse]
  have hpr : va_Pc (as.map (vl al 0)) (PreC D cs al w.2.1 w.2.2.2 H.size) = va_Pc (as.map (vl al b)) (PreC D cs al w.2.1 w.2.2.2 H.size) := by rw [hmap]
  rw [hpr] at hE
  have hlen2 : (as.map (vl al b)).length = mA Mc := by rw [List.length_map]; exact hlen
  rw [hst9]
  obtain ⟨-, hi1, hi3, hi4⟩ := h1
  have wi := mt_stat hi1
  rw [hMM] at wi
  have wl := mc_nestw hf (by omega)
  rw [hMM] at wl
  have hw9 : mw Mc = .code (mY Mc) (mB Mc) (mL Mc) (mR Mc) := by unfold mw; rw [hi3]
  have hcode : Cond.code (mY Mc) (mB Mc) (mL Mc) (mR Mc) ∈ wsG (mw Mc) := by rw [hw9]; exact List.mem_cons_self
  have ho0 : o.1 = 0 := ho0
  have hE2 := Met_vx hE (CX_no ho0)
  have cw : va_CN R s args (zOwn (mC M)) idx (mY Mc) "Cubecaller" (mB Mc) (mL Mc) (mR Mc) (wsG (mw Mc)) (rmD d w o.2.2) (cn o.2.2 w) (sn o.2.2 w) (as.map (vl al b)).length ∧ (Cond.static (mY Mc)).before args s = true ∧ True :=
    ⟨⟨⟨rfl, rfl, by show d + 7 + 1 ≤ _; omega, by show 8 + (mL Mc + 11) + (60 * d + 90) ≤ _; omega, hpay, hcode⟩, hts _ (wsG_in m1 _ hcode), hts _ m2, m4, fun sig hsig => by rw [hsig] at hi4; simp at hi4; omega, va_Nw.use rfl (hMF.2.1 _ wl)⟩, hts _ wi, trivial⟩
  have hr := run_vx (XC := CX D cs al (zA al w.2.1 H.size) w o) (va_runSN (g := F0 m pc la ((as.map (vl al b)).reverse ++ r.map (vl al b))) (rest := r.map (vl al b)) (locs := locs) (cells := cn w w0) (slots := sn w w0) (e := e) (below := below) (meth := meth) ⟨hx, hb, hml, hown, hts⟩ hE2 cw ⟨preC_blind, fun U hU hW => ⟨rfl, hpre U hU hW⟩⟩ rfl rfl y6.2.1 rfl (lv_room hcat) hd ⟨by omega, by omega⟩)
  exact s_cont hC hy hr0 hle hlo hr hk

/-! ===== the law's own rows of 60 ints, and its call that reads the script ===== -/
theorem inn_T (n : Nat) : (∀ p, inn (n + 1048576) p → inn n p ∨ p = 1048576 + n / 1048576) ∧ ¬ inn n (1048576 + n / 1048576) ∧ inn (n + 1048576) (1048576 + n / 1048576) ∧ nle n (n + 1048576) ∧ (n + 1048576) % 1048576 = n % 1048576 ∧ (n + 1048576) / 1048576 = n / 1048576 + 1 := by
  have e1 : (n + 1048576) % 1048576 = n % 1048576 := by omega
  have e2 : (n + 1048576) / 1048576 = n / 1048576 + 1 := by omega
  refine ⟨fun p hp => ?_, fun z => ?_, ?_, ?_, e1, e2⟩
  · unfold inn at hp ⊢; rw [e1, e2] at hp; omega
  · unfold inn at z; omega
  · unfold inn; rw [e1, e2]; omega
  · unfold nle; rw [e1, e2]; omega
theorem zTmp_in {σ : Hp} {n P : Nat} (h : ¬ inn n P) : ∀ p, inn n p → zTmp σ P p = σ p := fun p hp => by
  by_cases e : p = P
  · subst e; exact absurd hp h
  · funext j; unfold zTmp; rw [if_neg e]
theorem TyM.tmp {n : Nat} {σ : Hp} (hT : TyM true n σ) : TyM true (n + 1048576) (zTmp σ (1048576 + n / 1048576)) := by
  have hn := hT.1 rfl
  obtain ⟨i1, i2, i3, i4, i5, i6⟩ := inn_T n
  have hs := sh_big (p := 1048576 + n / 1048576) (by omega)
  refine hT.new (N := fun p => p = 1048576 + n / 1048576) i4 (fun h => by cases h) (fun _ => ?_) i1 (zTmp_in i2) (fun p j c o h1 h3 h4 => ?_) (fun p i h1 h3 => ?_) (fun h => by cases h)
  · obtain ⟨j, hj⟩ := hn
    exact ⟨j, by omega⟩
  · subst h1
    rw [hs.1] at h4
    have := zFld_lt h4
    omega
  · subst h1
    rw [hs.1]
    show r32 _
    unfold zTmp
    rw [if_pos rfl]
    exact r32_c rfl
theorem s_newT {Z : Act} {B : Bg} (hC : Cx Z B) {pc : Nat} {L : Lc} {w : Wd} {st : List PV} (hd : decode (mB B.1) pc = .ok (.newarray .int, 2)) (hm : w.1 = true) (hle : le (true, w.2.1 + 1048576, w.2.2.1, zTmp w.2.2.2 (1048576 + w.2.1 / 1048576)) B.2.2.2.2.1)
    (K : GX Z B (pc + 2) L (pvR 12 60 (1048576 + w.2.1 / 1048576) :: st) (true, w.2.1 + 1048576, w.2.2.1, zTmp w.2.2.2 (1048576 + w.2.1 / 1048576))) : GX Z B pc L (pvI 60 :: st) w := by
  obtain ⟨p, l, e, R, s, m, args, below, meth, c, D, cs, A, Q⟩ := Z
  obtain ⟨M, d, w0, al0, o, X, b⟩ := B
  obtain ⟨⟨hx, hb, hml, hown⟩, hts, hA, ⟨hlk, hst, hrt, hin, hex⟩, hMF, ⟨hR1, hR2, hR3, hR4⟩, hXs⟩ := hC
  intro al H locs la hy
  obtain ⟨y1, y2, y3, y4, y5, y6, y7, y8, y9⟩ := id hy
  have hle : le (true, w.2.1 + 1048576, w.2.2.1, zTmp w.2.2.2 (1048576 + w.2.1 / 1048576)) o := hle
  have hc8 := cn_le (w0 := w0) hle
  have hs8 := sn_le (w0 := w0) hle
  rw [hm] at y2
  have hyT := y2.tmp
  obtain ⟨i1, i2, i3, i4, i5, i6⟩ := inn_T w.2.1
  have hs := sh_big (p := 1048576 + w.2.1 / 1048576) (by omega)
  have hc9 : cn (true, w.2.1 + 1048576, w.2.2.1, zTmp w.2.2.2 (1048576 + w.2.1 / 1048576)) w0 = cn w w0 + 1 := cn_add y1.1 (by unfold cw; rw [i5, i6]; omega)
  have hs9 : sn (true, w.2.1 + 1048576, w.2.2.1, zTmp w.2.2.2 (1048576 + w.2.1 / 1048576)) w0 = sn w w0 + 60 := sn_add y1.1 (by unfold SL; rw [i5, i6]; omega)
  generalize hP : 1048576 + w.2.1 / 1048576 = P at *
  refine va_newa (atype := .int) (a0 := (60, .inl fun _ => 0)) (n := Int32.ofInt 60) (N' := 60) hx hb (hts _ (by decide +kernel)) rfl hMF.1 y7 y8 y9 hA (fun cA => rfl) (by decide) (by decide) (by decide) (by omega) (by omega) hd (fun q cA H1 q0 q1 q2 q3 => ?_)
  have hcA : cA = cs.1 := by
    have h5 := (q0.2 5 (cA, .int) rfl).2
    have h6 := (q0.2 0 (cs.1, .int) rfl).2
    exact Option.some.inj (h5.symm.trans h6)
  subst hcA
  have he : cel (alUp al P q) cs (zTmp w.2.2.2 P P) P = .inl (cs.1, 60, .inl fun _ => 0) := by
    have e : (fun j : Nat => Int32.ofInt (zTmp w.2.2.2 P P j)) = fun _ => 0 := funext fun j => by unfold zTmp; rw [if_pos rfl]; rfl
    unfold cel
    rw [if_neg (by omega), if_neg (by omega), if_neg (by omega), if_neg (by omega), if_neg (by omega), e, hs.2]
  obtain ⟨g1, g2⟩ := grow (al := al) (q := q) y2 i1 i2 (zTmp_in i2) he q1 q2
  have KK := K (alUp al P q) H1 locs la ⟨⟨⟨y1.1.1.trans i4, y1.1.2⟩, hle⟩, hyT, all_cons (PVok.R.mpr ⟨i3, hs⟩) (fun v hv => (y3 v (List.mem_cons_of_mem _ hv)).mono i4), fun i v hv => (y4 i v hv).mono i4, fun p hp => (alUp_in i2 p (hp.mono y1.1.1)).trans (y5 p hp), y6.congr (alUp_in i2) y4, g1, g2, q3⟩
  rw [hc9, hs9] at KK
  have hst9 : (pvR 12 60 P :: st).map (vl (alUp al P q) b) = .ref q :: st.map (vl al b) := by
    rw [List.map_cons, vl_R, alUp_n]
    exact congrArg (fun z => Value.ref q :: z) (List.map_congr_left fun v hv => vl_congr (alUp_in i2) (y3 v (List.mem_cons_of_mem _ hv)))
  rw [hst9] at KK
  exact KK
abbrev mtS : Mt := (12, ⟨"CubecallerLaw", "cell", "([II)I"⟩, method_2_code, 2, some .int, 2, [])
theorem mtS_E : mtab[zScr]? = some mtS := rfl
def rmS : Room := { frames := 1, cells := 0, slots := 0, locals := 60 }
theorem r32_N {n : Nat} (h : n < 2147483648) : r32 (n : Int) := by unfold r32; omega
set_option maxHeartbeats 4000000 in
/-- the law's own reading of its script -/
theorem c_scr (l : Launch) {q : Nat × (Nat → Int32)} {k : Int} (hk0 : 0 ≤ k) (hk1 : k ≤ 700) (hq : q.1 < 2147483648) {w : Wd} (hT : TyM w.1 w.2.1 w.2.2.2) (D : va_G) (cs : Cids) (al : Nat → Nat) (sz b : Nat) : vx_Met l (mY mtS) (wsG (mw mtS)) rmS
    (va_Pc [.ref b, .int (Int32.ofInt k)] (fun U => PreC D cs al w.2.1 w.2.2.2 sz U ∧ va_X b q.1 q.2 U U.heap ∧ b < sz ∧ ¬ zA al w.2.1 sz b))
    (CQ D cs al (zA al w.2.1 sz) w (0, some (pvI (scrV q k)), w)) (CX D cs al (zA al w.2.1 sz) w (0, some (pvI (scrV q k)), w)) (cn w w) (sn w w) (zA al w.2.1 sz) := by
  have hrk : r32 k := by unfold r32; omega
  have hrq := r32_N hq
  have hrv : r32 (scrV q k) := by
    unfold scrV
    split
    · exact r32_toInt _
    · unfold r32; omega
  rw [show cn w w = 0 by unfold cn; omega, show sn w w = 0 by unfold sn; omega]
  refine vx_ofW (cc := method_2_code) (maxL := 2) (ret := some .int) (by decide) rfl ?_
  intro p e s m args below meth c s₁ B hml ht hPc
  obtain ⟨rfl, ⟨hsz, hP, hD, hMF⟩, hX, hbl, hbA⟩ := hPc
  have hx := B.exec
  have hb := B.bytes
  have hr := B.returns
  have hlocks := B.notSynchronized
  have hts0 := atoms_spec (ws := wsG (mw mtS)) B.pre
  have hts : ∀ w' ∈ lw_good, w'.before #[Value.ref b, .int (Int32.ofInt k)] s = true := fun w' hw => hts0 w' (List.mem_cons_of_mem _ hw)
  have hown : s.vm.findClass (zOwn 12) = some m.cls := findClass_of_methodNamed B.named
  rw [← hsz] at hbl
  have hS : va_S (zA al w.2.1 sz) s.heap s.heap [] := va_S.rf
  have hl := lv_entry ([.ref b, .int (Int32.ofInt k)]) (n := 2) (Nat.le_of_ble_eq_true rfl)
  rw [lg_entry_eq]
  generalize (lg_sl ([.ref b, .int (Int32.ofInt k)]) ++ List.replicate (2 - (lg_sl ([.ref b, .int (Int32.ofInt k)])).length) Slot.unset).toArray = ls at hl ⊢
  have hl : lv_has ls 2 [(0, .ref b), (1, .int (Int32.ofInt k))] := hl
  have hend : ∀ v : Int32, v = Int32.ofInt (scrV q k) → ∀ t : State, t.heap = s.heap → CQ D cs al (zA al w.2.1 sz) w (0, some (pvI (scrV q k)), w) #[Value.ref b, .int (Int32.ofInt k)] s (.returned (some (.int v))) t := by
    intro v hv t ht
    subst hv
    exact ⟨rfl, ⟨al, fun _ _ => rfl, rfl, by rw [ht]; exact hP, hD⟩, hT, (fun u hu => by cases hu; exact ⟨hrv, Nat.zero_ne_add_one 2⟩), hS.F ht⟩
  refine lv_iload_n hx hb dL_cell_0 rfl (lv_at hl 1 rfl) ?_
  refine lv_aload_n hx hb dL_cell_1 rfl (lv_at hl 0 rfl) ?_
  refine va_slen hx hb hX hbl hbA hS dL_cell_2 ?_
  refine lv_icmp_ge hx hb dL_cell_3 (tgt := 12) rfl (fun h => ?_) (fun h => ?_)
  · have hge : (q.1 : Int) ≤ k := (i_le hrq hrk).mp h
    have hv : Int32.ofInt 2752871 * Int32.ofInt k + Int32.ofInt 3301 = Int32.ofInt (scrV q k) := by
      unfold scrV
      rw [if_neg (by omega), i_mul, w32_id (show r32 (2752871 * k) by unfold r32; omega), i_add, w32_id (show r32 (2752871 * k + 3301) by unfold r32; omega)]
    refine lv_ldc (v := Int32.ofInt 2752871) hx hb hown (hts _ (cst_word (c := 12) (i := 7) (v := 2752871) (by decide +kernel))) dL_cell_12 ?_
    refine lv_iload_n hx hb dL_cell_14 rfl (lv_at hl 1 rfl) ?_
    refine lv_imul hx hb dL_cell_15 ?_
    refine lv_sipush (v := Int32.ofInt 3301) hx hb dL_cell_16 (by decide) ?_
    refine lv_iadd hx hb dL_cell_19 ?_
    refine vx_ret (W.iret (v := Int32.ofInt 2752871 * Int32.ofInt k + Int32.ofInt 3301) hx hb (hr.trans rfl) (fun t ht hw => hend _ hv t ht) hS.2.2 dL_cell_20 hlocks)
  · have hlt : k < (q.1 : Int) := by
      by_cases g : k < (q.1 : Int)
      · exact g
      · exact absurd ((i_le hrq hrk).mpr (by omega)) h
    have hv : q.2 (Int32.ofInt k).toNatClampNeg = Int32.ofInt (scrV q k) := by
      unfold scrV
      rw [if_pos hlt, of_toInt32, r32_clN hrk hk0]
    refine lv_aload_n hx hb dL_cell_6 rfl (lv_at hl 0 rfl) ?_
    refine lv_iload_n hx hb dL_cell_7 rfl (lv_at hl 1 rfl) ?_
    refine va_sld hx hb hX hbl hbA hS (r32_in hrk hk0 hlt) dL_cell_8 ?_
    refine lv_goto hx hb dL_cell_9 (tgt := 20) rfl ?_
    exact vx_ret (W.iret (v := q.2 (Int32.ofInt k).toNatClampNeg) hx hb (hr.trans rfl) (fun t ht hw => hend _ hv t ht) hS.2.2 dL_cell_20 hlocks)
theorem s_scr {Z : Act} {B : Bg} (hC : Cx Z B) {pc idx : Nat} {L : Lc} {w : Wd} {r : List PV} {q : Nat × (Nat → Int32)} {k : Int} (hd : decode (mB B.1) pc = .ok (.invokestatic idx, 3)) (hX : B.2.2.2.2.2.1 = some q) (hf : rMth (mC B.1) idx = some (1, zScr)) (hcs : catS r ≤ 8) (hk0 : 0 ≤ k) (hk1 : k ≤ 700) (hq : q.1 < 2147483648) (hlo : le w B.2.2.2.2.1) (K : GX Z B (pc + 3) L (pvI (scrV q k) :: r) w) : GX Z B pc L (pvI k :: pvS :: r) w := by
  obtain ⟨p, l, e, R, s, m, args, below, meth, c, D, cs, A, Q⟩ := Z
  obtain ⟨M, d, w0, al0, wo, X, b⟩ := B
  obtain ⟨⟨hx, hb, hml, hown⟩, hts, hA, ⟨hlk, hst, hrt, hin, hex⟩, hMF, ⟨hR1, hR2, hR3, hR4⟩, hXs⟩ := id hC
  intro al H locs la hy
  obtain ⟨y1, y2, y3, y4, y5, y6, y7, y8, y9⟩ := id hy
  obtain ⟨x1, x2, x3⟩ := hXs q hX
  have hlo : le w wo := hlo
  have hzA : ∀ q, zA al w.2.1 H.size q → A q := zA_mono (va_D_al y8) (fun q hq => hA q (Nat.le_trans y9.1 hq))
  have hE := c_scr l hk0 hk1 hq y2 D cs al H.size b
  have hr0 : ∀ v ∈ r, PVok w.2.1 v := fun v hv => y3 v (List.mem_cons_of_mem _ (List.mem_cons_of_mem _ hv))
  have h1 := List.all_eq_true.mp mc_ok _ (find_mem hf)
  simp [mcOk] at h1
  have hkc := h1.1
  have hMM := mtM_of mtS_E
  rw [hMM] at h1
  obtain ⟨m1, m2, m3, m4, m5, m6⟩ := mt_word hkc mtS_E
  have hc8 := cn_le (w0 := w0) hlo
  have hs8 := sn_le (w0 := w0) hlo
  have c0 : cn w w = 0 := by unfold cn; omega
  have s0 : sn w w = 0 := by unfold sn; omega
  have hXH : va_X b q.1 q.2 s H := x1.kept (y9.2.1 b x2 x3)
  have hbH : b < H.size := Nat.lt_of_lt_of_le x2 y9.1
  have hpre : ∀ U : State, U.heap = H → s.WarmedH U.vm → (PreC D cs al w.2.1 w.2.2.2 H.size U ∧ va_X b q.1 q.2 U U.heap ∧ b < H.size ∧ ¬ zA al w.2.1 H.size b) := fun U hU hW =>
    ⟨⟨by rw [hU], by rw [hU]; exact y7, va_D_zA y8, by
      rw [hU]
      refine MF.warm hW (MF.narrow hzA ⟨hMF.1, hMF.2.1, hMF.2.2.1, hMF.2.2.2.1, hMF.2.2.2.2.1, hMF.2.2.2.2.2.1.kept y9.2.1, hMF.2.2.2.2.2.2.1.kept y9.2.1, hMF.2.2.2.2.2.2.2⟩)⟩, by rw [hU]; exact va_X.moved hW.alike hXH, hbH, fun z => x3 (hzA b z)⟩
  have hcat : ((r.map (vl al b)).map fun v => v.category).sum ≤ 8 := by rw [vl_catS]; exact hcs
  have hpay : ∀ x ∈ wsG (mw mtS), ∀ (a' : Array Value) (U : State), s.WarmedH U.vm → x.before a' U = true := pay_in hts (goodIn_all (wsG_in m1))
  obtain ⟨-, hi1, hi4⟩ := h1
  have wi := mt_stat hi1
  rw [hMM] at wi
  have wl := mc_linkw hf (Or.inr (by omega))
  rw [if_neg (by omega), hMM] at wl
  have hcode : Cond.code (mY mtS) (mB mtS) (mL mtS) (mR mtS) ∈ wsG (mw mtS) := List.mem_cons_self
  have cw : CallB R s args (zOwn (mC M)) idx (mY mtS) (mB mtS) (mL mtS) (mR mtS) (wsG (mw mtS)) rmS (cn w w) (sn w w) ([Value.ref b, .int (Int32.ofInt k)]).length ∧ (Cond.static (mY mtS)).before args s = true :=
    ⟨⟨c0.symm, s0.symm, by show 1 + 1 ≤ _; omega, by show 8 + (2 + 11) + 60 ≤ _; omega, hpay, hcode, hts _ (wsG_in m1 _ hcode), hts _ m2, m4, fun sig hsig => by rw [hsig] at hi4; simp at hi4; show 2 = _; have e9 : mA mtS = 2 := rfl; omega, hts _ wl⟩, hts _ wi⟩
  have hblind : FrameBlind (va_Pc [.ref b, .int (Int32.ofInt k)] (fun U => PreC D cs al w.2.1 w.2.2.2 H.size U ∧ va_X b q.1 q.2 U U.heap ∧ b < H.size ∧ ¬ zA al w.2.1 H.size b)) := fun a U g mk z => by
    obtain ⟨z1, ⟨z2, z3, z4, z5⟩, z6, z7⟩ := z
    exact ⟨z1, ⟨z2, z3, z4, MF.same (s := U) (U := U.calling g mk a) (H := U.heap) rfl z5⟩, va_X.moved (u := U) (U := U.calling g mk a) (Vm.Alike.refl U.vm) z6, z7⟩
  have hr := vx_runS (g := F0 m pc la (.int (Int32.ofInt k) :: .ref b :: r.map (vl al b))) (rest := r.map (vl al b)) (locs := locs) (cells := cn w w0) (slots := sn w w0) (e := e) (below := below) (meth := meth) ⟨hx, hb, hml, hown, hts⟩ hE cw ⟨hblind, fun U hU hW => ⟨rfl, hpre U hU hW⟩⟩ rfl rfl y6.2.1 rfl (lv_room hcat) hd ⟨by omega, by omega⟩
  exact s_cont (o := (0, some (pvI (scrV q k)), w)) hC hy hr0 (le.refl w) hlo hr (Or.inl ⟨rfl, K⟩)

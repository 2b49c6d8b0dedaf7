/-! ===== a new Formula, where all else is made ===== -/
def zF0 (c : ClassId) : va_E := .inl (c, 10, .inl fun _ => 0)
set_option maxHeartbeats 4000000 in
set_option maxRecDepth 100000 in
theorem c_Formula (l : Launch) (D : va_G) (cs : Cids) (h0 sz : Nat) : Met l yX2_init (wsG (.code yX2_init cX2_init 1 none)) ({ frames := 1, cells := 3, slots := 30, locals := 30 }) (va_Pc [.ref h0] (fun U => U.heap.size = sz ∧ va_P D vwCl [(h0, .inr (2, [.int 0, .int 0, .null, .null, .null]))] U.heap ∧ va_K D vwCl (ztys cs) U ∧ va_D (fun q => q = h0 ∨ sz ≤ q) [(h0, .inr (2, [.int 0, .int 0, .null, .null, .null]))]))
    (va_Qv (S := Nat × Nat × Nat) (fun _ => True) (fun u t => va_P D vwCl [(h0, .inr (2, [.int 0, .int 0, .ref u.1, .ref u.2.1, .ref u.2.2])), (u.1, zF0 cs.1), (u.2.1, zF0 cs.1), (u.2.2, zF0 cs.1)] t.heap ∧ va_D (fun q => q = h0 ∨ sz ≤ q) [(h0, .inr (2, [.int 0, .int 0, .ref u.1, .ref u.2.1, .ref u.2.2])), (u.1, zF0 cs.1), (u.2.1, zF0 cs.1), (u.2.2, zF0 cs.1)]) (fun q => q = h0 ∨ sz ≤ q)) 3 30 (fun q => q = h0 ∨ sz ≤ q) := by
  refine Met.ofW (cc := cX2_init) (maxL := 1) (ret := none) (by decide) rfl ?_
  intro p e s m args below meth c s₁ B hml hv
  obtain ⟨rfl, hsz, hP, hK, hD⟩ := hv
  have hx := B.exec
  have hb := B.bytes
  have hr := B.returns
  have hts0 := atoms_spec (ws := wsG (.code yX2_init cX2_init 1 none)) B.pre
  have hts : ∀ w ∈ lw_good, w.before #[Value.ref h0] s = true := fun w hw => hts0 w (List.mem_cons_of_mem _ hw)
  have hown : s.vm.findClass RX2 = some m.cls := findClass_of_methodNamed B.named
  have hlocks := B.notSynchronized
  have hin : meth.name = "<init>" := (name_of_methodNamed B.named B.method).1
  subst hsz
  generalize hAe : (fun q => q = h0 ∨ s.heap.size ≤ q) = A at hD ⊢
  have hA : ∀ q : Nat, s.heap.size ≤ q → A q := fun q h => by rw [← hAe]; exact Or.inr h
  have hS : va_S A s.heap s.heap [] := va_S.rf
  have hl := lv_entry ([.ref h0]) (n := 1) (Nat.le_of_ble_eq_true rfl)
  rw [lg_entry_eq]
  generalize (lg_sl ([.ref h0]) ++ List.replicate (1 - (lg_sl ([.ref h0])).length) Slot.unset).toArray = ls at hl ⊢
  have hl : lv_has ls 1 [(0, .ref h0)] := hl
  have one : ∀ (cA : ClassId) (K : va_K D vwCl (ztys cs ++ [(cA, .int)]) s), cA = cs.1 := fun cA K => by
    have h5 : s.vm.findClass ("[" ++ FieldType.int.toString) = some cA := (K.2 5 (cA, .int) rfl).2
    have h6 : s.vm.findClass ("[" ++ FieldType.int.toString) = some cs.1 := (K.2 0 (cs.1, .int) rfl).2
    exact Option.some.inj (h5.symm.trans h6)
  refine lv_aload_n hx hb dX2_init_0 rfl (lv_at hl 0 rfl) ?_
  refine W.objInit hx hb hown (hts (.methodLink RX2 3 objectInit) (by decide +kernel)) (hts (.instanceMethod objectInit) (by decide +kernel)) (hts _ (by decide +kernel)) rfl (by rw [hml]; exact hl.1) rfl dX2_init_1 (Nat.le_of_ble_eq_true rfl) (Nat.le_of_ble_eq_true rfl) ?_
  refine lv_aload_n hx hb dX2_init_4 rfl (lv_at hl 0 rfl) ?_
  refine lv_bipush (v := 10) hx hb dX2_init_5 (by decide) ?_
  refine va_newa (atype := .int) (a0 := (10, .inl fun _ => 0)) (N' := 10) hx hb (hts _ (by decide +kernel)) rfl hK hP hD hS hA (fun cA => rfl) (by decide) (by decide) (by decide) (Nat.le_of_ble_eq_true rfl) (Nat.le_of_ble_eq_true rfl) dX2_init_7 (fun q1 cA H1 K1 hP hD hS => ?_)
  have := one cA K1
  subst this
  refine va_putF hx hb hts (cls_in (k := 2) rfl) (zTy 2) (cls_ty (k := 2) rfl).1 (cls_ty (k := 2) rfl).2.1 hown hK hP hD hS 0 (a := h0) (ci := 2) (fs := [.int 0, .int 0, .null, .null, .null]) rfl rfl 2 (by decide) (hts _ (by decide +kernel)) (fun _ h => h) rfl hin rfl (ty := .array .int) (v := .ref q1) rfl rfl rfl (by decide) dX2_init_9 (fun H2 locs2 hP hD hS => ?_)
  have hP : va_P D vwCl [(h0, .inr (2, [.int 0, .int 0, .ref q1, .null, .null])), (q1, zF0 cs.1)] H2 := hP
  have hD : va_D A [(h0, .inr (2, [.int 0, .int 0, .ref q1, .null, .null])), (q1, zF0 cs.1)] := hD
  refine lv_aload_n hx hb dX2_init_12 rfl (lv_at hl 0 rfl) ?_
  refine lv_bipush (v := 10) hx hb dX2_init_13 (by decide) ?_
  refine va_newa (atype := .int) (a0 := (10, .inl fun _ => 0)) (N' := 10) hx hb (hts _ (by decide +kernel)) rfl hK hP hD hS hA (fun cA => rfl) (by decide) (by decide) (by decide) (Nat.le_of_ble_eq_true rfl) (Nat.le_of_ble_eq_true rfl) dX2_init_15 (fun q2 cA H3 K1 hP hD hS => ?_)
  have := one cA K1
  subst this
  refine va_putF hx hb hts (cls_in (k := 2) rfl) (zTy 2) (cls_ty (k := 2) rfl).1 (cls_ty (k := 2) rfl).2.1 hown hK hP hD hS 0 (a := h0) (ci := 2) (fs := [.int 0, .int 0, .ref q1, .null, .null]) rfl rfl 3 (by decide) (hts _ (by decide +kernel)) (fun _ h => h) rfl hin rfl (ty := .array .int) (v := .ref q2) rfl rfl rfl (Nat.le_of_ble_eq_true rfl) dX2_init_17 (fun H4 locs4 hP hD hS => ?_)
  have hP : va_P D vwCl [(h0, .inr (2, [.int 0, .int 0, .ref q1, .ref q2, .null])), (q1, zF0 cs.1), (q2, zF0 cs.1)] H4 := hP
  have hD : va_D A [(h0, .inr (2, [.int 0, .int 0, .ref q1, .ref q2, .null])), (q1, zF0 cs.1), (q2, zF0 cs.1)] := hD
  refine lv_aload_n hx hb dX2_init_20 rfl (lv_at hl 0 rfl) ?_
  refine lv_bipush (v := 10) hx hb dX2_init_21 (by decide) ?_
  refine va_newa (atype := .int) (a0 := (10, .inl fun _ => 0)) (N' := 10) hx hb (hts _ (by decide +kernel)) rfl hK hP hD hS hA (fun cA => rfl) (by decide) (by decide) (by decide) (Nat.le_of_ble_eq_true rfl) (Nat.le_of_ble_eq_true rfl) dX2_init_23 (fun q3 cA H5 K1 hP hD hS => ?_)
  have := one cA K1
  subst this
  refine va_putF hx hb hts (cls_in (k := 2) rfl) (zTy 2) (cls_ty (k := 2) rfl).1 (cls_ty (k := 2) rfl).2.1 hown hK hP hD hS 0 (a := h0) (ci := 2) (fs := [.int 0, .int 0, .ref q1, .ref q2, .null]) rfl rfl 4 (by decide) (hts _ (by decide +kernel)) (fun _ h => h) rfl hin rfl (ty := .array .int) (v := .ref q3) rfl rfl rfl (Nat.le_of_ble_eq_true rfl) dX2_init_25 (fun H6 locs6 hP hD hS => ?_)
  exact W.vret hx hb hr (fun t ht hw => ⟨⟨(q1, q2, q3), rfl, trivial, by rw [ht]; exact hP, hD⟩, hS.F ht⟩) hS.2.2 dX2_init_28 hlocks
theorem nOk_sh {n : Nat} (h : nOk n) (h4 : n % 1048576 + 4 < 1048576) : (sh (n % 1048576) = 2 ∧ ln (n % 1048576) = 0) ∧ ∀ i, 1 ≤ i → i < 4 → sh (n % 1048576 + i) = 12 ∧ ln (n % 1048576 + i) = 10 := by
  obtain ⟨j, hj⟩ := h
  rw [hj] at h4 ⊢
  refine ⟨?_, fun i h1 h2 => ?_⟩
  · have := sh_fm (p := 171 + 4 * j) (by omega) (by omega)
    rw [if_pos (by omega), if_pos (by omega)] at this
    exact this
  · have := sh_fm (p := 171 + 4 * j + i) (by omega) (by omega)
    rw [if_neg (by omega), if_neg (by omega)] at this
    exact this
theorem inn_4 {n : Nat} (h : 171 ≤ n % 1048576) (h4 : n % 1048576 + 4 < 1048576) : (∀ p, inn (n + 4) p → inn n p ∨ (n % 1048576 ≤ p ∧ p < n % 1048576 + 4)) ∧ (∀ p, inn n p → ¬ (n % 1048576 ≤ p ∧ p < n % 1048576 + 4)) ∧ (∀ i, i < 4 → inn (n + 4) (n % 1048576 + i)) ∧ nle n (n + 4) ∧ (n + 4) % 1048576 = n % 1048576 + 4 ∧ (n + 4) / 1048576 = n / 1048576 := by
  have e1 : (n + 4) % 1048576 = n % 1048576 + 4 := by omega
  have e2 : (n + 4) / 1048576 = n / 1048576 := by omega
  refine ⟨fun p hp => ?_, fun p hp z => ?_, fun i hi => ?_, ?_, e1, e2⟩
  · unfold inn at hp ⊢; rw [e1, e2] at hp; omega
  · unfold inn at hp; omega
  · unfold inn; rw [e1, e2]; omega
  · unfold nle; rw [e1, e2]; omega
theorem zFm_in {σ : Hp} {n N : Nat} (hd : ∀ p, inn n p → ¬ (N ≤ p ∧ p < N + 4)) : ∀ p, inn n p → zFormula σ N p = σ p := fun p hp => by have := hd p hp; funext j; unfold zFormula; rw [if_neg (by omega), if_neg (by omega)]
theorem TyM.formula {n : Nat} {σ : Hp} (hT : TyM true n σ) (h44 : n % 1048576 + 4 < 1048576) : TyM true (n + 4) (zFormula σ (n % 1048576)) := by
  have hn := hT.1 rfl
  obtain ⟨⟨a1, a2⟩, a3⟩ := nOk_sh hn h44
  obtain ⟨i1, i2, i3, i4, i5, i6⟩ := inn_4 hn.le h44
  generalize hN : n % 1048576 = N at *
  have hcase : ∀ p, N ≤ p → p < N + 4 → p = N ∨ (p ≠ N ∧ sh p = 12 ∧ ln p = 10) := fun p h1 h2 => by
    by_cases e : p = N
    · exact Or.inl e
    · obtain ⟨i, rfl⟩ : ∃ i, p = N + i := ⟨p - N, by omega⟩
      have := a3 i (by omega) (by omega)
      exact Or.inr ⟨e, this⟩
  refine hT.new (N := fun p => N ≤ p ∧ p < N + 4) i4 (fun h => by cases h) (fun _ => ?_) i1 (zFm_in i2) (fun p j c o h1 h3 h4 => ⟨?_, fun _ h => by cases h⟩) (fun p i h1 h3 => ?_) (fun h => by cases h)
  · obtain ⟨j, hj⟩ := hn
    exact ⟨j + 1, by omega⟩
  · have hk := zFld_lt h4
    rcases hcase p h1.1 h1.2 with rfl | ⟨-, e, -⟩
    · rw [a1] at h4
      have hj : j < 5 := (List.getElem?_eq_some_iff.mp h4).1
      unfold zFormula
      rw [if_pos rfl]
      match j, hj with
      | 0, _ => cases h4; exact r32_c rfl
      | 1, _ => cases h4; exact r32_c rfl
      | 2, _ => cases h4; exact Or.inl rfl
      | 3, _ => cases h4; exact Or.inl rfl
      | 4, _ => cases h4; exact Or.inl rfl
    · omega
  · rcases hcase p h1.1 h1.2 with rfl | ⟨e1, e, -⟩
    · omega
    · rw [e]
      show r32 _
      unfold zFormula
      rw [if_neg e1, if_pos ⟨by omega, h1.2⟩]
      exact r32_c rfl
set_option maxHeartbeats 4000000 in
theorem s_formula {Z : Act} {B : Bg} (hC : Cx Z B) {pc idx : Nat} {L : Lc} {w : Wd} {st : List PV} (hd : decode (mB B.1) pc = .ok (.new idx, 3)) (hm : w.1 = true) (hi : rNew (mC B.1) idx = some 2) (h10 : mC B.1 = 10) (hs : catS st ≤ 6) (d3 : decode (mB B.1) (pc + 3) = .ok (.dup, 1)) (d4 : decode (mB B.1) (pc + 4) = .ok (.invokespecial 57, 3)) (h44 : w.2.1 % 1048576 + 4 < 1048576) (hle : le (true, w.2.1 + 4, w.2.2.1, zFormula w.2.2.2 (w.2.1 % 1048576)) B.2.2.2.2.1)
    (K : GX Z B (pc + 7) L (pvF ((w.2.1 % 1048576 : Nat) : Int) :: st) (true, w.2.1 + 4, w.2.2.1, zFormula w.2.2.2 (w.2.1 % 1048576))) : GX Z B pc L st w := by
  obtain ⟨p, l, e, R, s, m, args, below, meth, c, D, cs, A, Q⟩ := Z
  obtain ⟨M, d, w0, al0, o, X, b⟩ := B
  obtain ⟨⟨hx, hb, hml, hown⟩, hts, hA, ⟨hlk, hst, hrt, hin, hex⟩, hMF, ⟨hR1, hR2, hR3, hR4⟩, hXs⟩ := hC
  intro al H locs la hy
  obtain ⟨y1, y2, y3, y4, y5, y6, y7, y8, y9⟩ := id hy
  obtain ⟨C, T, N, hkk, hC9, w1, w2, w3⟩ := new_word hi
  have hle : le (true, w.2.1 + 4, w.2.2.1, zFormula w.2.2.2 (w.2.1 % 1048576)) o := hle
  have hc8 := cn_le (w0 := w0) hle
  have hs8 := sn_le (w0 := w0) hle
  rw [hm] at y2
  obtain ⟨⟨a1, a2⟩, a3⟩ := nOk_sh (y2.1 rfl) h44
  obtain ⟨i1, i2, i3, i4, i5, i6⟩ := inn_4 (y2.1 rfl).le h44
  have hn171 := (y2.1 rfl).le
  have hyF := y2.formula h44
  have hc9 : cn (true, w.2.1 + 4, w.2.2.1, zFormula w.2.2.2 (w.2.1 % 1048576)) w0 = cn w w0 + 1 + 3 := by
    refine (cn_add (k := 4) y1.1 ?_).trans (by omega)
    unfold cw
    rw [i5, i6]
    repeat' split
    all_goals omega
  have hs9 : sn (true, w.2.1 + 4, w.2.2.1, zFormula w.2.2.2 (w.2.1 % 1048576)) w0 = sn w w0 + 5 + 30 := by
    refine (sn_add (k := 35) y1.1 ?_).trans (by omega)
    unfold SL
    rw [i5, i6]
    have hz1 : Sl (w.2.1 % 1048576 + 1 + 3) = Sl (w.2.1 % 1048576 + 1) + 3 * 10 := Sl_add (w.2.1 % 1048576 + 1) 3 10 (fun i hi => by have := a3 (1 + i) (by omega) (by omega); rw [show w.2.1 % 1048576 + (1 + i) = w.2.1 % 1048576 + 1 + i by omega] at this; unfold zSz; rw [if_neg (by omega), this.2])
    have hz2 : Sl (w.2.1 % 1048576 + 1) = Sl (w.2.1 % 1048576) + 5 := by show Sl (w.2.1 % 1048576) + zSz (w.2.1 % 1048576) = _; unfold zSz; rw [if_pos (by omega), a1]; rfl
    rw [show w.2.1 % 1048576 + 4 = w.2.1 % 1048576 + 1 + 3 by omega, hz1, hz2]
    omega
  generalize hN : w.2.1 % 1048576 = N at *
  have hC2 : C = RX2 := by rw [hC9]; rfl
  have h10 : mC M = 10 := h10
  have hown : s.vm.findClass (zOwn (mC M)) = some m.cls := hown
  have w1 : Cond.classLink (zOwn (mC M)) idx C ∈ lw_good := w1
  rw [h10] at hown w1
  have hown : s.vm.findClass RX10 = some m.cls := hown
  have w1 : Cond.classLink RX10 idx C ∈ lw_good := w1
  cases hkk
  obtain ⟨t1, t2, t3⟩ := cls_ty (k := 2) (q := (RX2, TX2, 5)) rfl
  refine va_new (fs := [.int 0, .int 0, .null, .null, .null]) (ci := 2) hx hb hts (cls_in (k := 2) (q := (RX2, TX2, 5)) rfl) (zTy 2) t1 hown (hts _ w1) (hts _ w2) (hts _ w3) hMF.1 y7 y8 y9 hA rfl (fun j hj => by rcases (show j = 0 ∨ j = 1 ∨ j = 2 ∨ j = 3 ∨ j = 4 by have : j < 5 := hj; omega) with rfl | rfl | rfl | rfl | rfl <;> rfl) (by omega) (by show sn w w0 + 5 ≤ _; omega) hd (fun q H1 q1 q2 q3 => ?_)
  refine lv_dup hx hb d3 rfl ?_
  have hAq : A q := app_q q2
  have hPq : va_P D vwCl [(q, .inr (2, [.int 0, .int 0, .null, .null, .null]))] H1 := fun k x hx => by
    have h0 : k < 1 := (List.getElem?_eq_some_iff.mp hx).1
    rw [show k = 0 by omega] at hx
    cases hx
    exact app_at q1
  have hDq : va_D (fun x => x = q ∨ H1.size ≤ x) [(q, .inr (2, [.int 0, .int 0, .null, .null, .null]))] := by
    refine ⟨fun i j x y hi hj _ => ?_, fun k x hx => ?_⟩
    · have h0 : i < 1 := (List.getElem?_eq_some_iff.mp hi).1
      have h1 : j < 1 := (List.getElem?_eq_some_iff.mp hj).1
      omega
    · have h0 : k < 1 := (List.getElem?_eq_some_iff.mp hx).1
      rw [show k = 0 by omega] at hx
      cases hx
      exact Or.inl rfl
  have hA1 : ∀ x, (x = q ∨ H1.size ≤ x) → A x := fun x hx => by
    rcases hx with rfl | hx
    · exact hAq
    · exact hA x (Nat.le_trans q3.1 hx)
  obtain ⟨m1, m2, m3, m4, m5, m6⟩ := mt_word (k := 11) (M := (2, yX2_init, cX2_init, 1, none, 1, [])) (by omega) rfl
  have hcode : Cond.code yX2_init cX2_init 1 none ∈ lw_good := m1
  have hsig9 : ∀ sig, parseMethodDescriptor yX2_init.desc = some sig → 0 = sig.parameters.length := fun sig hsig => by
    have h9 : (parseMethodDescriptor yX2_init.desc).map (fun d => d.parameters.length) = some 0 := by decide +kernel
    rw [hsig] at h9
    exact (Option.some.inj h9).symm
  have cw : va_CN R s args RX10 57 yX2_init "Cubecaller" cX2_init 1 none (wsG (.code yX2_init cX2_init 1 none)) ({ frames := 1, cells := 3, slots := 30, locals := 30 }) 3 30 0 ∧ yX2_init.name = "<init>" ∧ (Cond.instanceMethod yX2_init).before args s = true :=
    ⟨⟨⟨rfl, rfl, by show 1 + 1 ≤ _; omega, by show 8 + (1 + 11) + 30 ≤ _; omega, pay_in hts (goodIn_all (wsG_in hcode)), List.mem_cons_self⟩, hts _ hcode, hts _ m2, m4, hsig9, va_Nw.use rfl (hMF.2.1 ("Cubecaller", 57, yX2_init, "Cubecaller") (by decide +kernel))⟩, rfl, hts _ (by decide +kernel)⟩
  refine va_callv (va_runIN (As := []) (rest := .ref q :: st.map (vl al b)) ⟨hx, hb, hml, hown, hts⟩ (c_Formula l D cs q H1.size) cw ⟨fun a U g mk q9 => by obtain ⟨z1, z2, z3, z4, z5⟩ := q9; exact ⟨z1, z2, z3, va_K.moved (u := U) (U := U.calling g mk a) (Vm.Alike.refl U.vm) z4, z5⟩, fun U hU hW => ⟨rfl, by rw [hU], by rw [hU]; exact hPq, va_K.moved hW.alike hMF.1, hDq⟩⟩ rfl rfl y6.2.1 rfl (lv_room (by show 1 + ((st.map (vl al b)).map fun v => v.category).sum ≤ 8; rw [vl_catS]; omega)) d4 ⟨by omega, by show sn w w0 + 5 + 30 ≤ _; omega⟩) q3 (fun x _ h => hA1 x h) hA1 (fun u t H2 locs2 ht hvm _ hB hz hk hS => ?_)
  obtain ⟨hB1, hB2⟩ := hB
  rw [ht] at hB1
  obtain ⟨u1, u2, u3⟩ := u
  have ne : ∀ p, inn w.2.1 p → al p ≠ q := fun p hp h => app_ne q2 (wsv_get hp) h
  have lt1 : ∀ p, inn w.2.1 p → al p < H1.size := fun p hp => vx_lt (app_P q1) (wsv_get hp)
  have hP2 : va_P D vwCl (wsv al cs w.2.2.2 w.2.1) H2 := by
    refine (app_P q1).kept (fun k x hx => ?_)
    obtain ⟨p9, hp9, -, rfl⟩ := wsv_of hx
    refine hk _ (lt1 p9 hp9) (fun h => ?_)
    rcases h with h | h
    · exact ne p9 hp9 h
    · have := lt1 p9 hp9; omega
  have big : ∀ (i : Nat) (x : Nat × va_E), ([(q, .inr (2, [.int 0, .int 0, .ref u1, .ref u2, .ref u3])), (u1, zF0 cs.1), (u2, zF0 cs.1), (u3, zF0 cs.1)] : va_W)[i]? = some x → 1 ≤ i → H1.size ≤ x.1 := fun i x hx h1 => by
    rcases hB2.2 i x hx with h | h
    · have := hB2.1 i 0 x _ hx rfl h; omega
    · exact h
  have hdist : ∀ i j : Nat, i < 4 → j < 4 → (fun i => match i with | 0 => q | 1 => u1 | 2 => u2 | _ => u3 : Nat → Nat) i = (fun i => match i with | 0 => q | 1 => u1 | 2 => u2 | _ => u3 : Nat → Nat) j → i = j := by
    have hh : ∀ i, i < 4 → ∃ z, ([(q, .inr (2, [.int 0, .int 0, .ref u1, .ref u2, .ref u3])), (u1, zF0 cs.1), (u2, zF0 cs.1), (u3, zF0 cs.1)] : va_W)[i]? = some ((fun i => match i with | 0 => q | 1 => u1 | 2 => u2 | _ => u3 : Nat → Nat) i, z) := fun i hi => by
      match i, hi with
      | 0, _ => exact ⟨_, rfl⟩
      | 1, _ => exact ⟨_, rfl⟩
      | 2, _ => exact ⟨_, rfl⟩
      | 3, _ => exact ⟨_, rfl⟩
    intro i j hi hj h
    obtain ⟨z1, g1⟩ := hh i hi
    obtain ⟨z2, g2⟩ := hh j hj
    exact hB2.1 i j _ _ g1 g2 h
  obtain ⟨g1, g2⟩ := growX (σ' := zFormula w.2.2.2 N) (N := N) (m := 4) (A := A) (f := fun i => match i with | 0 => q | 1 => u1 | 2 => u2 | _ => u3) y2 i1 i2 (zFm_in i2) hP2 y8 hdist
    (fun i hi p hp h => by
      match i, hi with
      | 0, _ => exact ne p hp h
      | 1, _ => have := big 1 _ rfl (by omega); have := lt1 p hp; have h : al p = u1 := h; dsimp only at *; omega
      | 2, _ => have := big 2 _ rfl (by omega); have := lt1 p hp; have h : al p = u2 := h; dsimp only at *; omega
      | 3, _ => have := big 3 _ rfl (by omega); have := lt1 p hp; have h : al p = u3 := h; dsimp only at *; omega)
    (fun i hi => by
      match i, hi with
      | 0, _ => exact hAq
      | 1, _ => exact hA1 _ (hB2.2 1 _ rfl)
      | 2, _ => exact hA1 _ (hB2.2 2 _ rfl)
      | 3, _ => exact hA1 _ (hB2.2 3 _ rfl))
    (fun k hk4 => by
      have cz : ∀ i, 1 ≤ i → i < 4 → cel (alF al N 4 (fun i => match i with | 0 => q | 1 => u1 | 2 => u2 | _ => u3)) cs (zFormula w.2.2.2 N (N + i)) (N + i) = zF0 cs.1 := fun i h1 h4 => by
        have h5 := a3 i h1 h4
        have e3 : (fun j : Nat => Int32.ofInt (zFormula w.2.2.2 N (N + i) j)) = fun _ => 0 := funext fun j => by
          unfold zFormula
          rw [if_neg (by omega), if_pos ⟨by omega, by omega⟩]
          rfl
        unfold cel
        rw [if_neg (by omega), if_neg (by omega), if_neg (by omega), if_neg (by omega), if_neg (by omega), e3, h5.2]
        rfl
      match k, hk4 with
      | 0, _ =>
        have f1 := alF_ge (al := al) (N := N) (m := 4) (k := 1) (f := fun i => match i with | 0 => q | 1 => u1 | 2 => u2 | _ => u3) (by omega)
        have f2 := alF_ge (al := al) (N := N) (m := 4) (k := 2) (f := fun i => match i with | 0 => q | 1 => u1 | 2 => u2 | _ => u3) (by omega)
        have f3 := alF_ge (al := al) (N := N) (m := 4) (k := 3) (f := fun i => match i with | 0 => q | 1 => u1 | 2 => u2 | _ => u3) (by omega)
        have c1 : cel (alF al N 4 (fun i => match i with | 0 => q | 1 => u1 | 2 => u2 | _ => u3)) cs (zFormula w.2.2.2 N (N + 0)) (N + 0) = .inr (2, [.int 0, .int 0, .ref u1, .ref u2, .ref u3]) := by
          unfold cel
          rw [Nat.add_zero, if_pos (by omega), a1]
          congr 2
          have g : ∀ j : Nat, zFormula w.2.2.2 N N j = if (j : Int) = 2 then (N : Int) + 1 else if (j : Int) = 3 then (N : Int) + 2 else if (j : Int) = 4 then (N : Int) + 3 else 0 := fun j => by unfold zFormula; rw [if_pos rfl]
          show [fvl _ 0 _, fvl _ 0 _, fvl _ 4 _, fvl _ 4 _, fvl _ 4 _] = _
          rw [g 0, g 1, g 2, g 3, g 4]
          have r1 : fvl (alF al N 4 (fun i => match i with | 0 => q | 1 => u1 | 2 => u2 | _ => u3)) 4 ((N : Int) + 1) = .ref u1 := by
            have := fvl_R (al := alF al N 4 (fun i => match i with | 0 => q | 1 => u1 | 2 => u2 | _ => u3)) (c := 4) (P := N + 1) (by omega)
            rw [f1] at this
            exact this
          have r2 : fvl (alF al N 4 (fun i => match i with | 0 => q | 1 => u1 | 2 => u2 | _ => u3)) 4 ((N : Int) + 2) = .ref u2 := by
            have := fvl_R (al := alF al N 4 (fun i => match i with | 0 => q | 1 => u1 | 2 => u2 | _ => u3)) (c := 4) (P := N + 2) (by omega)
            rw [f2] at this
            exact this
          have r3 : fvl (alF al N 4 (fun i => match i with | 0 => q | 1 => u1 | 2 => u2 | _ => u3)) 4 ((N : Int) + 3) = .ref u3 := by
            have := fvl_R (al := alF al N 4 (fun i => match i with | 0 => q | 1 => u1 | 2 => u2 | _ => u3)) (c := 4) (P := N + 3) (by omega)
            rw [f3] at this
            exact this
          exact congrArg (Value.int 0 :: Value.int 0 :: ·) (by
            show [fvl _ 4 ((N : Int) + 1), fvl _ 4 ((N : Int) + 2), fvl _ 4 ((N : Int) + 3)] = _
            rw [r1, r2, r3])
        rw [c1]
        exact hB1 0 _ rfl
      | 1, _ => rw [cz 1 (by omega) (by omega)]; exact hB1 1 _ rfl
      | 2, _ => rw [cz 2 (by omega) (by omega)]; exact hB1 2 _ rfl
      | 3, _ => rw [cz 3 (by omega) (by omega)]; exact hB1 3 _ rfl)
  have KK := K (alF al N 4 (fun i => match i with | 0 => q | 1 => u1 | 2 => u2 | _ => u3)) H2 locs2 la ⟨⟨⟨y1.1.1.trans i4, y1.1.2⟩, hle⟩, hyF, all_cons (Or.inr ⟨N, rfl, i3 0 (by omega), a1, a2⟩) (fun v hv => (y3 v hv).mono i4), fun i v hv => (y4 i v hv).mono i4, fun p hp => (alF_in i2 p (hp.mono y1.1.1)).trans (y5 p hp), y6.congr (alF_in i2) y4, g1, g2, hS⟩
  rw [hc9, hs9] at KK
  have hst9 : (pvF (N : Int) :: st).map (vl (alF al N 4 (fun i => match i with | 0 => q | 1 => u1 | 2 => u2 | _ => u3)) b) = .ref q :: st.map (vl al b) := by
    rw [List.map_cons]
    have h5 : vl (alF al N 4 (fun i => match i with | 0 => q | 1 => u1 | 2 => u2 | _ => u3)) b (pvF (N : Int)) = .ref q := by
      have h6 := fvl_R (al := alF al N 4 (fun i => match i with | 0 => q | 1 => u1 | 2 => u2 | _ => u3)) (c := 3) (P := N) (by omega)
      have h7 := alF_ge (al := al) (N := N) (m := 4) (k := 0) (f := fun i => match i with | 0 => q | 1 => u1 | 2 => u2 | _ => u3) (by omega)
      rw [Nat.add_zero] at h7
      rw [h7] at h6
      exact h6
    rw [h5]
    congr 1
    exact List.map_congr_left fun v hv => vl_congr (alF_in i2) (y3 v hv)
  rw [hst9] at KK
  exact KK

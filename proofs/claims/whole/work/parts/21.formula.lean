/-! ===== a new Formula, where all else is made ===== -/
def zF0 (c : ClassId) : va_E := .inl (c, 10, .inl fun _ => 0)
set_option maxHeartbeats 4000000 in
set_option maxRecDepth 100000 in
theorem c_Formula (l : Launch) (D : va_G) (cs : Cids) (h0 sz : Nat) : Met l yX2_init (wsG (.code yX2_init cX2_init 1 none)) ({ frames := 1, cells := 3, slots := 30, locals := 30 }) (va_Pc [.ref h0] (fun U => U.heap.size = sz ∧ va_P D vwCl [(h0, .inr (2, [.int 0, .int 0, .null, .null, .null]))] U.heap ∧ va_K D vwCl (ztys cs) U ∧ va_D (fun q => q = h0 ∨ sz ≤ q) [(h0, .inr (2, [.int 0, .int 0, .null, .null, .null]))]))
    (va_Qv (S := Nat × Nat × Nat) (fun _ => True) (fun u t => va_P D vwCl [(h0, .inr (2, [.int 0, .int 0, .ref u.1, .ref u.2.1, .ref u.2.2])), (u.1, zF0 cs.1), (u.2.1, zF0 cs.1), (u.2.2, zF0 cs.1)] t.heap ∧ va_D (fun q => q = h0 ∨ sz ≤ q) [(h0, .inr (2, [.int 0, .int 0, .ref u.1, .ref u.2.1, .ref u.2.2])), (u.1, zF0 cs.1), (u.2.1, zF0 cs.1), (u.2.2, zF0 cs.1)]) (fun q => q = h0 ∨ sz ≤ q)) 3 30 (fun q => q = h0 ∨ sz ≤ q) := by
  refine Met.ofW (cc := cX2_init) (maxL := 1) (ret := none) (by decide) rfl ?_
  intro p e s m args below meth c s₁ B hml hv
  obtain ⟨rfl, hsz, hP, hK, hD⟩ := hv
  have hx := B.exec
  have hb := B.bytes
  have hr := B.returns
  have hts0 := atoms_spec (ws := wsG (.code yX2_init cX2_init 1 none)) B.pre
  have hts : ∀ w ∈ lw_good, w.before #[Value.ref h0] s = true := fun w hw => hts0 w (List.mem_cons_of_mem _ hw)
  have hown : s.vm.findClass RX2 = some m.cls := findClass_of_methodNamed B.named
  have hlocks := B.notSynchronized
  have hin : meth.name = "<init>" := (name_of_methodNamed B.named B.method).1
  subst hsz
  generalize hAe : (fun q => q = h0 ∨ s.heap.size ≤ q) = A at hD ⊢
  have hA : ∀ q : Nat, s.heap.size ≤ q → A q := fun q h => by rw [← hAe]; exact Or.inr h
  have hS : va_S A s.heap s.heap [] := va_S.rf
  have hl := lv_entry ([.ref h0]) (n := 1) (Nat.le_of_ble_eq_true rfl)
  rw [lg_entry_eq]
  generalize (lg_sl ([.ref h0]) ++ List.replicate (1 - (lg_sl ([.ref h0])).length) Slot.unset).toArray = ls at hl ⊢
  have hl : lv_has ls 1 [(0, .ref h0)] := hl
  have one : ∀ (cA : ClassId) (K : va_K D vwCl (ztys cs ++ [(cA, .int)]) s), cA = cs.1 := fun cA K => by
    have h5 : s.vm.findClass ("[" ++ FieldType.int.toString) = some cA := (K.2 5 (cA, .int) rfl).2
    have h6 : s.vm.findClass ("[" ++ FieldType.int.toString) = some cs.1 := (K.2 0 (cs.1, .int) rfl).2
    exact Option.some.inj (h5.symm.trans h6)
  refine lv_aload_n hx hb dX2_init_0 rfl (lv_at hl 0 rfl) ?_
  refine W.objInit hx hb hown (hts (.methodLink RX2 3 objectInit) (by decide +kernel)) (hts (.instanceMethod objectInit) (by decide +kernel)) (hts _ (by decide +kernel)) rfl (by rw [hml]; exact hl.1) rfl dX2_init_1 (Nat.le_of_ble_eq_true rfl) (Nat.le_of_ble_eq_true rfl) ?_
  refine lv_aload_n hx hb dX2_init_4 rfl (lv_at hl 0 rfl) ?_
  refine lv_bipush (v := 10) hx hb dX2_init_5 (by decide) ?_
  refine va_newa (atype := .int) (a0 := (10, .inl fun _ => 0)) (N' := 10) hx hb (hts _ (by decide +kernel)) rfl hK hP hD hS hA (fun cA => rfl) (by decide) (by decide) (by decide) (Nat.le_of_ble_eq_true rfl) (Nat.le_of_ble_eq_true rfl) dX2_init_7 (fun q1 cA H1 K1 hP hD hS => ?_)
  have := one cA K1
  subst this
  refine va_putF hx hb hts (cls_in (k := 2) rfl) (zTy 2) (cls_ty (k := 2) rfl).1 (cls_ty (k := 2) rfl).2.1 hown hK hP hD hS 0 (a := h0) (ci := 2) (fs := [.int 0, .int 0, .null, .null, .null]) rfl rfl 2 (by decide) (hts _ (by decide +kernel)) (fun _ h => h) rfl hin rfl (ty := .array .int) (v := .ref q1) rfl rfl rfl (by decide) dX2_init_9 (fun H2 locs2 hP hD hS => ?_)
  have hP : va_P D vwCl [(h0, .inr (2, [.int 0, .int 0, .ref q1, .null, .null])), (q1, zF0 cs.1)] H2 := hP
  have hD : va_D A [(h0, .inr (2, [.int 0, .int 0, .ref q1, .null, .null])), (q1, zF0 cs.1)] := hD
  refine lv_aload_n hx hb dX2_init_12 rfl (lv_at hl 0 rfl) ?_
  refine lv_bipush (v := 10) hx hb dX2_init_13 (by decide) ?_
  refine va_newa (atype := .int) (a0 := (10, .inl fun _ => 0)) (N' := 10) hx hb (hts _ (by decide +kernel)) rfl hK hP hD hS hA (fun cA => rfl) (by decide) (by decide) (by decide) (Nat.le_of_ble_eq_true rfl) (Nat.le_of_ble_eq_true rfl) dX2_init_15 (fun q2 cA H3 K1 hP hD hS => ?_)
  have := one cA K1
  subst this
  refine va_putF hx hb hts (cls_in (k := 2) rfl) (zTy 2) (cls_ty (k := 2) rfl).1 (cls_ty (k := 2) rfl).2.1 hown hK hP hD hS 0 (a := h0) (ci := 2) (fs := [.int 0, .int 0, .ref q1, .null, .null]) rfl rfl 3 (by decide) (hts _ (by decide +kernel)) (fun _ h => h) rfl hin rfl (ty := .array .int) (v := .ref q2) rfl rfl rfl (Nat.le_of_ble_eq_true rfl) dX2_init_17 (fun H4 locs4 hP hD hS => ?_)
  have hP : va_P D vwCl [(h0, .inr (2, [.int 0, .int 0, .ref q1, .ref q2, .null])), (q1, zF0 cs.1), (q2, zF0 cs.1)] H4 := hP
  have hD : va_D A [(h0, .inr (2, [.int 0, .int 0, .ref q1, .ref q2, .null])), (q1, zF0 cs.1), (q2, zF0 cs.1)] := hD
  refine lv_aload_n hx hb dX2_init_20 rfl (lv_at hl 0 rfl) ?_
  refine lv_bipush (v := 10) hx hb dX2_init_21 (by decide) ?_
  refine va_newa (atype := .int) (a0 := (10, .inl fun _ => 0)) (N' := 10) hx hb (hts _ (by decide +kernel)) rfl hK hP hD hS hA (fun cA => rfl) (by decide) (by decide) (by decide) (Nat.le_of_ble_eq_true rfl) (Nat.le_of_ble_eq_true rfl) dX2_init_23 (fun q3 cA H5 K1 hP hD hS => ?_)
  have := one cA K1
  subst this
  refine va_putF hx hb hts (cls_in (k := 2) rfl) (zTy 2) (cls_ty (k := 2) rfl).1 (cls_ty (k := 2) rfl).2.1 hown hK hP hD hS 0 (a := h0) (ci := 2) (fs := [.int 0, .int 0, .ref q1, .ref q2, .null]) rfl rfl 4 (by decide) (hts _ (by decide +kernel)) (fun _ h => h) rfl hin rfl (ty := .array .int) (v := .ref q3) rfl rfl rfl (Nat.le_of_ble_eq_true rfl) dX2_init_25 (fun H6 locs6 hP hD hS => ?_)
  exact W.vret hx hb hr (fun t ht hw => ⟨⟨(q1, q2, q3), rfl, trivial, by rw [ht]; exact hP, hD⟩, hS.F ht⟩) hS.2.2 dX2_init_28 hlocks
def alF (al : Nat → Nat) (n : Nat) (f : Nat → Nat) : Nat → Nat := fun p => if p < n then al p else f (p - n)
theorem alF_lt {al : Nat → Nat} {n : Nat} {f : Nat → Nat} : ∀ p, p < n → alF al n f p = al p := fun p hp => by unfold alF; rw [if_pos hp]
theorem alF_ge {al : Nat → Nat} {n k : Nat} {f : Nat → Nat} : alF al n f (n + k) = f k := by unfold alF; rw [if_neg (by omega)]; congr 1; omega
theorem growX {md : Bool} {n m : Nat} {σ σ' : Hp} {al : Nat → Nat} {cs : Cids} {D : va_G} {H1 : Heap} {A : Nat → Prop} {f : Nat → Nat} (hT : TyM md n σ) (ho : ∀ p, p < n → σ' p = σ p) (hP : va_P D vwCl (wsv al cs σ n) H1) (hD : va_D A (wsv al cs σ n)) (hf : ∀ i j, i < m → j < m → f i = f j → i = j) (hfo : ∀ i, i < m → ∀ p, p < n → al p ≠ f i) (hA : ∀ i, i < m → A (f i))
    (hc : ∀ k, k < m → va_at D vwCl (f k, cel (alF al n f) cs (σ' (n + k)) (n + k)) H1) : va_P D vwCl (wsv (alF al n f) cs σ' (n + m)) H1 ∧ va_D A (wsv (alF al n f) cs σ' (n + m)) := by
  have key : ∀ (k : Nat) (x : Nat × va_E), (wsv (alF al n f) cs σ' (n + m))[k]? = some x → k < n + m ∧ x = (alF al n f k, cel (alF al n f) cs (σ' k) k) := by
    intro k x hx
    have hk2 : k < n + m := by
      have := (List.getElem?_eq_some_iff.mp hx).1
      rwa [wsv_len] at this
    rw [wsv_get hk2] at hx
    cases hx
    exact ⟨hk2, rfl⟩
  have hin : ∀ i j, i < n + m → j < n + m → alF al n f i = alF al n f j → i = j := by
    intro i j i9 j9 h
    by_cases hi : i < n <;> by_cases hj : j < n
    · rw [alF_lt i hi, alF_lt j hj] at h
      exact hD.1 i j _ _ (wsv_get hi) (wsv_get hj) h
    · rw [alF_lt i hi] at h
      unfold alF at h
      rw [if_neg hj] at h
      exact absurd h (hfo _ (by omega) i hi)
    · rw [alF_lt j hj] at h
      unfold alF at h
      rw [if_neg hi] at h
      exact absurd h.symm (hfo _ (by omega) j hj)
    · unfold alF at h
      rw [if_neg hi, if_neg hj] at h
      have := hf _ _ (by omega) (by omega) h
      omega
  refine ⟨fun k x hx => ?_, fun i j x y hi hj hxy => ?_, fun k x hx => ?_⟩
  · obtain ⟨h1, rfl⟩ := key k x hx
    by_cases h : k < n
    · have h2 := wsv_al (al' := alF al n f) alF_lt hT hP
      have h4 : (wsv (alF al n f) cs σ n)[k]? = some (alF al n f k, cel (alF al n f) cs (σ' k) k) := by rw [wsv_get h, ho k h]
      exact h2 k _ h4
    · obtain ⟨i, rfl⟩ : ∃ i, k = n + i := ⟨k - n, by omega⟩
      rw [alF_ge]
      exact hc i (by omega)
  · obtain ⟨i1, rfl⟩ := key i x hi
    obtain ⟨j1, rfl⟩ := key j y hj
    exact hin i j i1 j1 hxy
  · obtain ⟨h1, rfl⟩ := key k x hx
    by_cases h : k < n
    · show A (alF al n f k)
      rw [alF_lt k h]
      exact hD.2 k _ (wsv_get h)
    · show A (alF al n f k)
      unfold alF
      rw [if_neg h]
      exact hA _ (by omega)
theorem nOk_sh {n : Nat} (h : nOk n) : (sh n = 2 ∧ ln n = 0) ∧ ∀ i, 1 ≤ i → i < 4 → sh (n + i) = 12 ∧ ln (n + i) = 10 := by
  obtain ⟨j, rfl⟩ := h
  refine ⟨⟨?_, ?_⟩, fun i h1 h2 => ⟨?_, ?_⟩⟩
  · unfold sh; rw [if_neg (by omega), if_pos (by omega)]
  · unfold ln; rw [if_neg (by omega), if_pos (by omega)]
  · unfold sh; rw [if_neg (by omega), if_neg (by omega)]
  · unfold ln; rw [if_neg (by omega), if_neg (by omega)]
theorem zFm_lt {σ : Hp} {n : Nat} : ∀ p, p < n → zFormula σ n p = σ p := fun p hp => by funext j; unfold zFormula; rw [if_neg (by omega), if_neg (by omega)]
theorem TyM.formula {n : Nat} {σ : Hp} (hT : TyM true n σ) : TyM true (n + 4) (zFormula σ n) := by
  have hn := hT.1 rfl
  obtain ⟨⟨a1, a2⟩, a3⟩ := nOk_sh hn
  have hcase : ∀ p, n ≤ p → p < n + 4 → p = n ∨ (p ≠ n ∧ sh p = 12 ∧ ln p = 10) := fun p h1 h2 => by
    by_cases e : p = n
    · exact Or.inl e
    · obtain ⟨i, rfl⟩ : ∃ i, p = n + i := ⟨p - n, by omega⟩
      have := a3 i (by omega) (by omega)
      exact Or.inr ⟨e, this⟩
  refine hT.new (fun h => by cases h) (fun _ => ?_) zFm_lt (fun p j c o h1 h2 h3 h4 => ⟨?_, fun _ h => by cases h⟩) (fun p i h1 h2 h3 => ?_) (fun p h1 h2 h3 => ?_)
  · obtain ⟨j, rfl⟩ := hn
    exact ⟨j + 1, by omega⟩
  · have hk := zFld_lt h4
    rcases hcase p h1 h2 with rfl | ⟨-, e, -⟩
    · rw [a1] at h4
      have hj : j < 5 := (List.getElem?_eq_some_iff.mp h4).1
      unfold zFormula
      rw [if_pos rfl]
      match j, hj with
      | 0, _ => cases h4; exact r32_c rfl
      | 1, _ => cases h4; exact r32_c rfl
      | 2, _ => cases h4; exact Or.inl rfl
      | 3, _ => cases h4; exact Or.inl rfl
      | 4, _ => cases h4; exact Or.inl rfl
    · omega
  · rcases hcase p h1 h2 with rfl | ⟨e1, e, -⟩
    · omega
    · rw [e]
      show r32 _
      unfold zFormula
      rw [if_neg e1, if_pos ⟨by omega, h2⟩]
      exact r32_c rfl
  · rcases hcase p h1 h2 with rfl | ⟨e1, e, -⟩ <;> omega
set_option maxHeartbeats 4000000 in
theorem s_formula {Z : Act} {B : Bg} (hC : Cx Z B) {pc idx : Nat} {L : Lc} {w : Wd} {st : List PV} (hd : decode (mB B.1) pc = .ok (.new idx, 3)) (hm : w.1 = true) (hi : rNew (mC B.1) idx = some 2) (h10 : mC B.1 = 10) (hs : catS st ≤ 6) (d3 : decode (mB B.1) (pc + 3) = .ok (.dup, 1)) (d4 : decode (mB B.1) (pc + 4) = .ok (.invokespecial 57, 3)) (hle : le (true, w.2.1 + 4, w.2.2.1, zFormula w.2.2.2 w.2.1) B.2.2.2.2.1)
    (K : GX Z B (pc + 7) L (pvF (w.2.1 : Int) :: st) (true, w.2.1 + 4, w.2.2.1, zFormula w.2.2.2 w.2.1)) : GX Z B pc L st w := by
  obtain ⟨p, l, e, R, s, m, args, below, meth, c, D, cs, A, Q⟩ := Z
  obtain ⟨M, d, w0, al0, o, X, b⟩ := B
  obtain ⟨⟨hx, hb, hml, hown⟩, hts, hA, ⟨hlk, hst, hrt, hin, hex⟩, hMF, ⟨hR1, hR2, hR3, hR4⟩, hXs⟩ := hC
  intro al H locs la hy
  obtain ⟨y1, y2, y3, y4, y5, y6, y7, y8, y9⟩ := id hy
  obtain ⟨C, T, N, hkk, hC9, w1, w2, w3⟩ := new_word hi
  have hle : le (true, w.2.1 + 4, w.2.2.1, zFormula w.2.2.2 w.2.1) o := hle
  have hc8 := cn_le (w0 := w0) hle
  have hs8 := sn_le (w0 := w0) hle
  rw [hm] at y2
  obtain ⟨⟨a1, a2⟩, a3⟩ := nOk_sh (y2.1 rfl)
  have hc9 : cn (true, w.2.1 + 4, w.2.2.1, zFormula w.2.2.2 w.2.1) w0 = cn w w0 + 1 + 3 := cn_add y1.1
  have hz1 : Sl (w.2.1 + 1 + 3) = Sl (w.2.1 + 1) + 3 * 10 := Sl_add (w.2.1 + 1) 3 10 (fun i hi => by have := a3 (1 + i) (by omega) (by omega); rw [show w.2.1 + (1 + i) = w.2.1 + 1 + i by omega] at this; unfold zSz; rw [if_neg (by omega), this.2])
  have hz2 : Sl (w.2.1 + 1) = Sl w.2.1 + 5 := by show Sl w.2.1 + zSz w.2.1 = _; unfold zSz; rw [if_pos (by omega), a1]; rfl
  have hs9 : sn (true, w.2.1 + 4, w.2.2.1, zFormula w.2.2.2 w.2.1) w0 = sn w w0 + 5 + 30 := by
    unfold sn
    have := Sl_mono y1.1.1; have := y1.1.2
    dsimp only
    rw [show w.2.1 + 4 = w.2.1 + 1 + 3 by omega, hz1, hz2]
    omega
  have hC2 : C = RX2 := by rw [hC9]; rfl
  have h10 : mC M = 10 := h10
  have hown : s.vm.findClass (zOwn (mC M)) = some m.cls := hown
  have w1 : Cond.classLink (zOwn (mC M)) idx C ∈ lw_good := w1
  rw [h10] at hown w1
  have hown : s.vm.findClass RX10 = some m.cls := hown
  have w1 : Cond.classLink RX10 idx C ∈ lw_good := w1
  cases hkk
  obtain ⟨t1, t2, t3⟩ := cls_ty (k := 2) (q := (RX2, TX2, 5)) rfl
  refine va_new (fs := [.int 0, .int 0, .null, .null, .null]) (ci := 2) hx hb hts (cls_in (k := 2) (q := (RX2, TX2, 5)) rfl) (zTy 2) t1 hown (hts _ w1) (hts _ w2) (hts _ w3) hMF.1 y7 y8 y9 hA rfl (fun j hj => by rcases (show j = 0 ∨ j = 1 ∨ j = 2 ∨ j = 3 ∨ j = 4 by have : j < 5 := hj; omega) with rfl | rfl | rfl | rfl | rfl <;> rfl) (by omega) (by show sn w w0 + 5 ≤ _; omega) hd (fun q H1 q1 q2 q3 => ?_)
  refine lv_dup hx hb d3 rfl ?_
  have hqn : (wsv al cs w.2.2.2 w.2.1 ++ [(q, .inr (2, [.int 0, .int 0, .null, .null, .null]))])[w.2.1]? = some (q, .inr (2, [.int 0, .int 0, .null, .null, .null])) := by
    rw [List.getElem?_append_right (by rw [wsv_len]; omega), wsv_len, Nat.sub_self]; rfl
  have hqp : ∀ p, p < w.2.1 → (wsv al cs w.2.2.2 w.2.1 ++ [(q, .inr (2, [.int 0, .int 0, .null, .null, .null]))])[p]? = some (al p, cel al cs (w.2.2.2 p) p) := fun p hp => by
    rw [List.getElem?_append_left (by rw [wsv_len]; exact hp), wsv_get hp]
  have hAq : A q := q2.2 _ _ hqn
  have hPq : va_P D vwCl [(q, .inr (2, [.int 0, .int 0, .null, .null, .null]))] H1 := fun k x hx => by
    have h0 : k < 1 := (List.getElem?_eq_some_iff.mp hx).1
    rw [show k = 0 by omega] at hx
    cases hx
    exact q1 _ _ hqn
  have hDq : va_D (fun x => x = q ∨ H1.size ≤ x) [(q, .inr (2, [.int 0, .int 0, .null, .null, .null]))] := by
    refine ⟨fun i j x y hi hj _ => ?_, fun k x hx => ?_⟩
    · have h0 : i < 1 := (List.getElem?_eq_some_iff.mp hi).1
      have h1 : j < 1 := (List.getElem?_eq_some_iff.mp hj).1
      omega
    · have h0 : k < 1 := (List.getElem?_eq_some_iff.mp hx).1
      rw [show k = 0 by omega] at hx
      cases hx
      exact Or.inl rfl
  have hA1 : ∀ x, (x = q ∨ H1.size ≤ x) → A x := fun x hx => by
    rcases hx with rfl | hx
    · exact hAq
    · exact hA x (Nat.le_trans q3.1 hx)
  obtain ⟨m1, m2, m3, m4, m5, m6⟩ := mt_word (k := 11) (M := (2, yX2_init, cX2_init, 1, none, 1, [])) (by omega) rfl
  have hcode : Cond.code yX2_init cX2_init 1 none ∈ lw_good := m1
  have hsig9 : ∀ sig, parseMethodDescriptor yX2_init.desc = some sig → 0 = sig.parameters.length := fun sig hsig => by
    have h9 : (parseMethodDescriptor yX2_init.desc).map (fun d => d.parameters.length) = some 0 := by decide +kernel
    rw [hsig] at h9
    exact (Option.some.inj h9).symm
  have cw : va_CN R s args RX10 57 yX2_init "Cubecaller" cX2_init 1 none (wsG (.code yX2_init cX2_init 1 none)) ({ frames := 1, cells := 3, slots := 30, locals := 30 }) 3 30 0 ∧ yX2_init.name = "<init>" ∧ (Cond.instanceMethod yX2_init).before args s = true :=
    ⟨⟨⟨rfl, rfl, by show 1 + 1 ≤ _; omega, by show 8 + (1 + 11) + 30 ≤ _; omega, pay_in hts (goodIn_all (wsG_in hcode)), List.mem_cons_self⟩, hts _ hcode, hts _ m2, m4, hsig9, va_Nw.use rfl (hMF.2.1 ("Cubecaller", 57, yX2_init, "Cubecaller") (by decide +kernel))⟩, rfl, hts _ (by decide +kernel)⟩
  refine va_callv (va_runIN (As := []) (rest := .ref q :: st.map (vl al b)) ⟨hx, hb, hml, hown, hts⟩ (c_Formula l D cs q H1.size) cw ⟨fun a U g mk q9 => by obtain ⟨z1, z2, z3, z4, z5⟩ := q9; exact ⟨z1, z2, z3, va_K.moved (u := U) (U := U.calling g mk a) (Vm.Alike.refl U.vm) z4, z5⟩, fun U hU hW => ⟨rfl, by rw [hU], by rw [hU]; exact hPq, va_K.moved hW.alike hMF.1, hDq⟩⟩ rfl rfl y6.2.1 rfl (lv_room (by show 1 + ((st.map (vl al b)).map fun v => v.category).sum ≤ 8; rw [vl_catS]; omega)) d4 ⟨by omega, by show sn w w0 + 5 + 30 ≤ _; omega⟩) q3 (fun x _ h => hA1 x h) hA1 (fun u t H2 locs2 ht hvm _ hB hz hk hS => ?_)
  obtain ⟨hB1, hB2⟩ := hB
  rw [ht] at hB1
  obtain ⟨u1, u2, u3⟩ := u
  have ne : ∀ p, p < w.2.1 → al p ≠ q := fun p hp h => by
    have := q2.1 p w.2.1 _ _ (hqp p hp) hqn h
    omega
  have lt1 : ∀ p, p < w.2.1 → al p < H1.size := fun p hp => vx_lt q1 (hqp p hp)
  have hP2 : va_P D vwCl (wsv al cs w.2.2.2 w.2.1) H2 := by
    have h9 : va_P D vwCl (wsv al cs w.2.2.2 w.2.1) H1 := fun k9 x9 hx9 => q1 k9 x9 (by rw [List.getElem?_append_left (List.getElem?_eq_some_iff.mp hx9).1]; exact hx9)
    refine h9.kept (fun k x hx => ?_)
    have hk2 : k < w.2.1 := by
      have := (List.getElem?_eq_some_iff.mp hx).1
      rwa [wsv_len] at this
    rw [wsv_get hk2] at hx
    cases hx
    refine hk _ (lt1 k hk2) (fun h => ?_)
    rcases h with h | h
    · exact ne k hk2 h
    · have := lt1 k hk2; omega
  have big : ∀ (i : Nat) (x : Nat × va_E), ([(q, .inr (2, [.int 0, .int 0, .ref u1, .ref u2, .ref u3])), (u1, zF0 cs.1), (u2, zF0 cs.1), (u3, zF0 cs.1)] : va_W)[i]? = some x → 1 ≤ i → H1.size ≤ x.1 := fun i x hx h1 => by
    rcases hB2.2 i x hx with h | h
    · have := hB2.1 i 0 x _ hx rfl h; omega
    · exact h
  have hdist : ∀ i j : Nat, i < 4 → j < 4 → (fun i => match i with | 0 => q | 1 => u1 | 2 => u2 | _ => u3 : Nat → Nat) i = (fun i => match i with | 0 => q | 1 => u1 | 2 => u2 | _ => u3 : Nat → Nat) j → i = j := by
    have hh : ∀ i, i < 4 → ∃ z, ([(q, .inr (2, [.int 0, .int 0, .ref u1, .ref u2, .ref u3])), (u1, zF0 cs.1), (u2, zF0 cs.1), (u3, zF0 cs.1)] : va_W)[i]? = some ((fun i => match i with | 0 => q | 1 => u1 | 2 => u2 | _ => u3 : Nat → Nat) i, z) := fun i hi => by
      match i, hi with
      | 0, _ => exact ⟨_, rfl⟩
      | 1, _ => exact ⟨_, rfl⟩
      | 2, _ => exact ⟨_, rfl⟩
      | 3, _ => exact ⟨_, rfl⟩
    intro i j hi hj h
    obtain ⟨z1, g1⟩ := hh i hi
    obtain ⟨z2, g2⟩ := hh j hj
    exact hB2.1 i j _ _ g1 g2 h
  obtain ⟨g1, g2⟩ := growX (m := 4) (A := A) (f := fun i => match i with | 0 => q | 1 => u1 | 2 => u2 | _ => u3) y2 (zFm_lt (n := w.2.1)) hP2 y8 hdist
    (fun i hi p hp h => by
      match i, hi with
      | 0, _ => exact ne p hp h
      | 1, _ => have := big 1 _ rfl (by omega); have := lt1 p hp; have h : al p = u1 := h; dsimp only at *; omega
      | 2, _ => have := big 2 _ rfl (by omega); have := lt1 p hp; have h : al p = u2 := h; dsimp only at *; omega
      | 3, _ => have := big 3 _ rfl (by omega); have := lt1 p hp; have h : al p = u3 := h; dsimp only at *; omega)
    (fun i hi => by
      match i, hi with
      | 0, _ => exact hAq
      | 1, _ => exact hA1 _ (hB2.2 1 _ rfl)
      | 2, _ => exact hA1 _ (hB2.2 2 _ rfl)
      | 3, _ => exact hA1 _ (hB2.2 3 _ rfl))
    (fun k hk4 => by
      have cz : ∀ i, 1 ≤ i → i < 4 → cel (alF al w.2.1 (fun i => match i with | 0 => q | 1 => u1 | 2 => u2 | _ => u3)) cs (zFormula w.2.2.2 w.2.1 (w.2.1 + i)) (w.2.1 + i) = zF0 cs.1 := fun i h1 h4 => by
        have h5 := a3 i h1 h4
        have e3 : (fun j : Nat => Int32.ofInt (zFormula w.2.2.2 w.2.1 (w.2.1 + i) j)) = fun _ => 0 := funext fun j => by
          unfold zFormula
          rw [if_neg (by omega), if_pos ⟨by omega, by omega⟩]
          rfl
        unfold cel
        rw [if_neg (by omega), if_neg (by omega), if_neg (by omega), if_neg (by omega), if_neg (by omega), e3, h5.2]
        rfl
      match k, hk4 with
      | 0, _ =>
        have f1 := alF_ge (al := al) (n := w.2.1) (k := 1) (f := fun i => match i with | 0 => q | 1 => u1 | 2 => u2 | _ => u3)
        have f2 := alF_ge (al := al) (n := w.2.1) (k := 2) (f := fun i => match i with | 0 => q | 1 => u1 | 2 => u2 | _ => u3)
        have f3 := alF_ge (al := al) (n := w.2.1) (k := 3) (f := fun i => match i with | 0 => q | 1 => u1 | 2 => u2 | _ => u3)
        have c1 : cel (alF al w.2.1 (fun i => match i with | 0 => q | 1 => u1 | 2 => u2 | _ => u3)) cs (zFormula w.2.2.2 w.2.1 (w.2.1 + 0)) (w.2.1 + 0) = .inr (2, [.int 0, .int 0, .ref u1, .ref u2, .ref u3]) := by
          unfold cel
          rw [Nat.add_zero, if_pos (by omega), a1]
          congr 2
          have g : ∀ j : Nat, zFormula w.2.2.2 w.2.1 w.2.1 j = if (j : Int) = 2 then (w.2.1 : Int) + 1 else if (j : Int) = 3 then (w.2.1 : Int) + 2 else if (j : Int) = 4 then (w.2.1 : Int) + 3 else 0 := fun j => by unfold zFormula; rw [if_pos rfl]
          show [fvl _ 0 _, fvl _ 0 _, fvl _ 4 _, fvl _ 4 _, fvl _ 4 _] = _
          rw [g 0, g 1, g 2, g 3, g 4]
          have r1 : fvl (alF al w.2.1 (fun i => match i with | 0 => q | 1 => u1 | 2 => u2 | _ => u3)) 4 ((w.2.1 : Int) + 1) = .ref u1 := by
            have := fvl_R (al := alF al w.2.1 (fun i => match i with | 0 => q | 1 => u1 | 2 => u2 | _ => u3)) (c := 4) (P := w.2.1 + 1) (by omega)
            rw [f1] at this
            exact this
          have r2 : fvl (alF al w.2.1 (fun i => match i with | 0 => q | 1 => u1 | 2 => u2 | _ => u3)) 4 ((w.2.1 : Int) + 2) = .ref u2 := by
            have := fvl_R (al := alF al w.2.1 (fun i => match i with | 0 => q | 1 => u1 | 2 => u2 | _ => u3)) (c := 4) (P := w.2.1 + 2) (by omega)
            rw [f2] at this
            exact this
          have r3 : fvl (alF al w.2.1 (fun i => match i with | 0 => q | 1 => u1 | 2 => u2 | _ => u3)) 4 ((w.2.1 : Int) + 3) = .ref u3 := by
            have := fvl_R (al := alF al w.2.1 (fun i => match i with | 0 => q | 1 => u1 | 2 => u2 | _ => u3)) (c := 4) (P := w.2.1 + 3) (by omega)
            rw [f3] at this
            exact this
          exact congrArg (Value.int 0 :: Value.int 0 :: ·) (by
            show [fvl _ 4 ((w.2.1 : Int) + 1), fvl _ 4 ((w.2.1 : Int) + 2), fvl _ 4 ((w.2.1 : Int) + 3)] = _
            rw [r1, r2, r3])
        rw [c1]
        exact hB1 0 _ rfl
      | 1, _ => rw [cz 1 (by omega) (by omega)]; exact hB1 1 _ rfl
      | 2, _ => rw [cz 2 (by omega) (by omega)]; exact hB1 2 _ rfl
      | 3, _ => rw [cz 3 (by omega) (by omega)]; exact hB1 3 _ rfl)
  have KK := K (alF al w.2.1 (fun i => match i with | 0 => q | 1 => u1 | 2 => u2 | _ => u3)) H2 locs2 la ⟨⟨⟨Nat.le_trans y1.1.1 (Nat.le_add_right _ _), y1.1.2⟩, hle⟩, y2.formula, all_cons (Or.inr ⟨w.2.1, rfl, by show w.2.1 < w.2.1 + 4; omega, a1, a2⟩) (fun v hv => (y3 v hv).mono (Nat.le_add_right _ _)), fun i v hv => (y4 i v hv).mono (Nat.le_add_right _ _), fun p hp => (alF_lt p (Nat.lt_of_lt_of_le hp y1.1.1)).trans (y5 p hp), y6.congr alF_lt y4, g1, g2, hS⟩
  rw [hc9, hs9] at KK
  have hst9 : (pvF (w.2.1 : Int) :: st).map (vl (alF al w.2.1 (fun i => match i with | 0 => q | 1 => u1 | 2 => u2 | _ => u3)) b) = .ref q :: st.map (vl al b) := by
    rw [List.map_cons]
    have h5 : vl (alF al w.2.1 (fun i => match i with | 0 => q | 1 => u1 | 2 => u2 | _ => u3)) b (pvF (w.2.1 : Int)) = .ref q := by
      have h6 := fvl_R (al := alF al w.2.1 (fun i => match i with | 0 => q | 1 => u1 | 2 => u2 | _ => u3)) (c := 3) (P := w.2.1) (by omega)
      have h7 := alF_ge (al := al) (n := w.2.1) (k := 0) (f := fun i => match i with | 0 => q | 1 => u1 | 2 => u2 | _ => u3)
      rw [Nat.add_zero] at h7
      rw [h7] at h6
      exact h6
    rw [h5]
    congr 1
    exact List.map_congr_left fun v hv => vl_congr alF_lt (y3 v hv)
  rw [hst9] at KK
  exact KK

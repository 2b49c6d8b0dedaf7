/-! ===== new ===== -/
theorem zNew_in {σ : Hp} {n : Nat} (hn : n < 130) : ∀ p, inn n p → zNew σ n p = σ p := fun p hp => by have := inn_lt hp (by omega); funext j; unfold zNew; rw [if_neg (by omega)]
def newOk (q : Nat × Nat × Nat) : Bool := decide (Cond.classLink (zOwn q.1) q.2.1 (zOwn q.2.2) ∈ lw_good) && match vwCl[q.2.2]? with
  | some (C, _, N) => decide (Cond.instantiable C N ∈ lw_good) && decide (Cond.initialized C ∈ lw_good)
  | none => false
theorem new_ok : rNewL.all newOk = true := by decide +kernel
theorem new_word {c i k : Nat} (h : rNew c i = some k) : ∃ (C : String) (T : u_T) (N : Nat), vwCl[k]? = some (C, T, N) ∧ C = zOwn k ∧ Cond.classLink (zOwn c) i C ∈ lw_good ∧ Cond.instantiable C N ∈ lw_good ∧ Cond.initialized C ∈ lw_good := by
  have h1 := List.all_eq_true.mp new_ok _ (find_mem h)
  unfold newOk at h1
  simp only [Bool.and_eq_true, decide_eq_true_eq] at h1
  obtain ⟨h1, h2⟩ := h1
  split at h2
  · rename_i C T N hk
    have hC : C = zOwn k := by
      have h3 := List.all_eq_true.mp ty_ok k (List.mem_range.mpr (cl_len hk))
      unfold tyOk at h3
      rw [hk] at h3
      simp only [Bool.and_eq_true, decide_eq_true_eq] at h3
      exact h3.1
    simp only [Bool.and_eq_true, decide_eq_true_eq] at h2
    exact ⟨C, T, N, hk, hC, by rw [hC]; exact h1, h2.1, h2.2⟩
  · cases h2
theorem zFld_c {k j c : Nat} {o : Int} (h : (zFld k)[j]? = some (c, o)) : c ≤ 4 := by
  have hk := zFld_lt h
  have hex : ∀ k, k < 12 → ∀ j, j < (zFld k).length → ∀ q, (zFld k)[j]? = some q → q.1 ≤ 4 := by
    intro k hk j hj q hq
    have h1 : ∀ k, k < 12 → (zFld k).all (fun q => decide (q.1 ≤ 4)) = true := by decide +kernel
    have := List.all_eq_true.mp (h1 k hk) q (List.mem_of_getElem? hq)
    exact of_decide_eq_true this
  exact hex k hk j (List.getElem?_eq_some_iff.mp h).1 _ h
theorem zNew_f {σ : Hp} {n j c : Nat} {o : Int} (hs : sh n < 12) (h : (zFld (sh n))[j]? = some (c, o)) : zNew σ n n j = if c = 3 ∨ c = 4 then -1 else 0 := by
  unfold zNew
  rw [if_pos rfl, if_pos hs, Int.toNat_natCast, h]
  have := zFld_c h
  match c, this with
  | 0, _ => rfl
  | 1, _ => rfl
  | 2, _ => rfl
  | 3, _ => rfl
  | 4, _ => rfl
theorem dflt_ok {t : FieldType} {c : Nat} {al : Nat → Nat} (hc : c ≤ 4) (ht : tyK c t) : defaultValue t = fvl al c (if c = 3 ∨ c = 4 then -1 else 0) := by
  match c, hc, ht with
  | 0, _, ht => cases ht; rfl
  | 1, _, ht => cases ht; rfl
  | 2, _, ht => cases ht; rfl
  | 3, _, ht => rcases ht with ⟨n, rfl⟩ | ⟨n, rfl⟩ <;> rfl
  | 4, _, ht => rcases ht with ⟨n, rfl⟩ | ⟨n, rfl⟩ <;> rfl
theorem TyM.newO {n : Nat} {σ : Hp} (hT : TyM false n σ) (hn : n < 130) (h16 : sh n ≠ 16) : TyM false (n + 1) (zNew σ n) := by
  refine hT.new (N := fun p => p = n) (nle_1 (by omega)) (fun _ => by omega) (fun h => by cases h) (inn_1 hn).1 (zNew_in hn) (fun p j c o h1 h3 h4 => ?_) (fun p i h1 h3 => ?_) (fun _ p h1 h3 => ?_)
  · subst h1
    have hk := zFld_lt h4
    rw [zNew_f hk h4]
    have := zFld_c h4
    match c, this with
    | 0, _ => exact ⟨r32_c rfl, fun h => by omega⟩
    | 1, _ => exact ⟨r64_c rfl, fun h => by omega⟩
    | 2, _ => exact ⟨⟨by decide, by decide⟩, fun h => by omega⟩
    | 3, _ => exact ⟨Or.inl rfl, fun h => by omega⟩
    | 4, _ => exact ⟨Or.inr ⟨rfl, rfl⟩, fun _ _ => rfl⟩
  · subst h1
    have h17 := sh_le p
    have hv : zNew σ p p i = if sh p = 15 then -1 else 0 := by
      unfold zNew
      rw [if_pos rfl, if_neg (by omega)]
    rw [hv]
    rcases (show sh p = 12 ∨ sh p = 13 ∨ sh p = 14 ∨ sh p = 15 by omega) with e | e | e | e <;> rw [e]
    · exact r32_c rfl
    · exact r64_c rfl
    · exact ⟨by decide, by decide⟩
    · exact Or.inl rfl
  · subst h1; exact absurd h3 h16
theorem s_new {Z : Act} {B : Bg} (hC : Cx Z B) {pc idx k : Nat} {L : Lc} {w : Wd} {st : List PV} (hd : decode (mB B.1) pc = .ok (.new idx, 3)) (hm : w.1 = false) (hn : w.2.1 < 130) (hk : rNew (mC B.1) idx = some k) (h1 : sh w.2.1 = k) (h2 : ln w.2.1 = 0) (h3 : k < 12) (hle : le (false, w.2.1 + 1, w.2.2.1, zNew w.2.2.2 w.2.1) B.2.2.2.2.1)
    (K : GX Z B (pc + 3) L (pvR k 0 w.2.1 :: st) (false, w.2.1 + 1, w.2.2.1, zNew w.2.2.2 w.2.1)) : GX Z B pc L st w := by
  obtain ⟨p, l, e, R, s, m, args, below, meth, c, D, cs, A, Q⟩ := Z
  obtain ⟨M, d, w0, al0, o, X, b⟩ := B
  obtain ⟨⟨hx, hb, hml, hown⟩, hts, hA, ⟨hlk, hst, hrt, hin, hex⟩, hMF, ⟨hR1, hR2, hR3, hR4⟩, hXs⟩ := hC
  intro al H locs la hy
  obtain ⟨y1, y2, y3, y4, y5, y6, y7, y8, y9⟩ := id hy
  obtain ⟨C, T, N, hkk, hC9, w1, w2, w3⟩ := new_word hk
  obtain ⟨t1, t2, t3⟩ := cls_ty hkk
  have t3 : (zFld k).length = N := t3
  have hle : le (false, w.2.1 + 1, w.2.2.1, zNew w.2.2.2 w.2.1) o := hle
  have hc9 : cn (false, w.2.1 + 1, w.2.2.1, zNew w.2.2.2 w.2.1) w0 = cn w w0 + 1 := cn_add y1.1 (cw_1 (by omega))
  have hs9 : sn (false, w.2.1 + 1, w.2.2.1, zNew w.2.2.2 w.2.1) w0 = sn w w0 + N := by rw [sn_add y1.1 (SL_1 hn), zSz, if_pos (by omega), h1, t3]
  have hc8 := cn_le (w0 := w0) hle
  have hs8 := sn_le (w0 := w0) hle
  rw [hm] at y2
  have hfs : ∀ j, j < N → defaultValue (zTy k j) = vp_V (flds k al (zNew w.2.2.2 w.2.1 w.2.1)) j := by
    intro j hj
    have hj2 : j < (zFld k).length := by rw [t3]; exact hj
    obtain ⟨⟨c5, o5⟩, hz⟩ : ∃ x, (zFld k)[j]? = some x := ⟨_, List.getElem?_eq_getElem hj2⟩
    obtain ⟨q1, q2, q3, q4, q5⟩ := fld_ty hkk hj hz
    unfold vp_V
    rw [List.getD_eq_getElem?_getD, flds_get hz, zNew_f (by omega) (by rw [h1]; exact hz)]
    exact dflt_ok q3 q4
  refine va_new hx hb hts (cls_in hkk) (zTy k) t1 hown (hts _ w1) (hts _ w2) (hts _ w3) hMF.1 y7 y8 y9 hA hkk hfs (by omega) (by omega) hd (fun q H1 q1 q2 q3 => ?_)
  have hT2 := y2.newO hn (by omega)
  have he : cel (alUp al w.2.1 q) cs (zNew w.2.2.2 w.2.1 w.2.1) w.2.1 = .inr (k, flds k al (zNew w.2.2.2 w.2.1 w.2.1)) := by
    unfold cel
    rw [if_pos (by omega), h1]
    congr 2
    unfold flds
    apply List.map_congr_left
    intro j hj
    have hj2 : j < (zFld k).length := List.mem_range.mp hj
    obtain ⟨⟨c5, o5⟩, hz⟩ : ∃ x, (zFld k)[j]? = some x := ⟨_, List.getElem?_eq_getElem hj2⟩
    rw [List.getD_eq_getElem?_getD, hz, zNew_f (by omega) (by rw [h1]; exact hz)]
    show fvl _ c5 _ = fvl _ c5 _
    match c5, zFld_c hz with
    | 0, _ => rfl
    | 1, _ => rfl
    | 2, _ => rfl
    | 3, _ => rfl
    | 4, _ => rfl
  obtain ⟨g1, g2⟩ := grow (al := al) (q := q) y2 (inn_1 hn).1 (inn_1 hn).2.1 (zNew_in hn) he q1 q2
  have KK := K (alUp al w.2.1 q) H1 locs la ⟨⟨⟨y1.1.1.trans (nle_1 (show w.2.1 + 1 ≤ 130 by omega)), y1.1.2⟩, hle⟩, hT2, all_cons (PVok.R.mpr ⟨(inn_1 hn).2.2, h1, h2⟩) (fun v hv => (y3 v hv).mono (nle_1 (show w.2.1 + 1 ≤ 130 by omega))), fun i v hv => (y4 i v hv).mono (nle_1 (show w.2.1 + 1 ≤ 130 by omega)), fun p hp => (alUp_in (inn_1 hn).2.1 p (hp.mono y1.1.1)).trans (y5 p hp), y6.congr (alUp_in (inn_1 hn).2.1) y4, g1, g2, q3⟩
  rw [hc9, hs9] at KK
  have hst9 : (pvR k 0 w.2.1 :: st).map (vl (alUp al w.2.1 q) b) = .ref q :: st.map (vl al b) := by
    rw [List.map_cons, vl_R, alUp_n]
    congr 1
    exact List.map_congr_left fun v hv => vl_congr (alUp_in (inn_1 hn).2.1) (y3 v hv)
  rw [hst9] at KK
  exact KK
/-- the entry of a new array -/
theorem zNew_a {σ : Hp} {n : Nat} (h : 12 ≤ sh n) (i : Int) : zNew σ n n i = if sh n = 15 then -1 else 0 := by
  unfold zNew
  rw [if_pos rfl, if_neg (by omega)]
theorem cel_n12 {al : Nat → Nat} {cs : Cids} {σ : Hp} {n : Nat} (h : sh n = 12) : cel al cs (zNew σ n n) n = .inl (cs.1, ln n, .inl fun _ => 0) := by
  have e : (fun j : Nat => Int32.ofInt (zNew σ n n j)) = fun _ => 0 := funext fun j => by rw [zNew_a (by omega), if_neg (by omega)]; rfl
  unfold cel
  rw [if_neg (by omega), if_neg (by omega), if_neg (by omega), if_neg (by omega), if_neg (by omega), e]
theorem cel_n13 {al : Nat → Nat} {cs : Cids} {σ : Hp} {n : Nat} (h : sh n = 13) : cel al cs (zNew σ n n) n = .inl (cs.2.1, ln n, .inr (.inl fun _ => 0)) := by
  have e : (fun j : Nat => Int64.ofInt (zNew σ n n j)) = fun _ => 0 := funext fun j => by rw [zNew_a (by omega), if_neg (by omega)]; rfl
  unfold cel
  rw [if_neg (by omega), if_pos h, e]
theorem cel_n14 {al : Nat → Nat} {cs : Cids} {σ : Hp} {n : Nat} (h : sh n = 14) : cel al cs (zNew σ n n) n = .inl (cs.2.2.1, ln n, .inl fun _ => 0) := by
  have e : (fun j : Nat => Int32.ofInt (zNew σ n n j)) = fun _ => 0 := funext fun j => by rw [zNew_a (by omega), if_neg (by omega)]; rfl
  unfold cel
  rw [if_neg (by omega), if_neg (by omega), if_pos h, e]
theorem cel_n15 {al : Nat → Nat} {cs : Cids} {σ : Hp} {n : Nat} (h : sh n = 15) : cel al cs (zNew σ n n) n = .inl (cs.2.2.2.1, ln n, .inr (.inr (.inr (.inr fun _ => none)))) := by
  have e : (fun j : Nat => rfo al (zNew σ n n j)) = fun _ => none := funext fun j => by rw [zNew_a (by omega), if_pos h]; rfl
  unfold cel
  rw [if_neg (by omega), if_neg (by omega), if_neg (by omega), if_pos h, e]
theorem grow_goal {Z : Act} {B : Bg} {pc q k : Nat} {L : Lc} {w : Wd} {st : List PV} {al : Nat → Nat} {H1 : Heap} {locs : List Loc} {la : Array Slot} {e : va_E}
    (K : GX Z B pc L (pvR k (ln w.2.1) w.2.1 :: st) (false, w.2.1 + 1, w.2.2.1, zNew w.2.2.2 w.2.1)) (hm : w.1 = false) (hn : w.2.1 < 130) (h1 : sh w.2.1 = k) (hk : k < 16) (hle : le (false, w.2.1 + 1, w.2.2.1, zNew w.2.2.2 w.2.1) B.2.2.2.2.1) : match Z, B with
  | (p, l, ev, R, s, m, args, below, meth, c, D, cs, A, Q), (M, _, w0, al0, _, _, b) => ∀ H, Hy (p, l, ev, R, s, m, args, below, meth, c, D, cs, A, Q) B al H locs la L st w → cel (alUp al w.2.1 q) cs (zNew w.2.2.2 w.2.1 w.2.1) w.2.1 = e → va_P D vwCl (wsv al cs w.2.2.2 w.2.1 ++ [(q, e)]) H1 → va_D A (wsv al cs w.2.2.2 w.2.1 ++ [(q, e)]) → va_S A s.heap H1 locs → W p l ev R s m args below meth c H1 locs (cn w w0 + 1) (sn w w0 + zSz w.2.1) Q (F0 m pc la (.ref q :: st.map (vl al b))) := by
  obtain ⟨p, l, e, R, s, m, args, below, meth, c, D, cs, A, Q⟩ := Z
  obtain ⟨M, d, w0, al0, o, X, b⟩ := B
  intro H hy he q1 q2 q3
  obtain ⟨y1, y2, y3, y4, y5, y6, y7, y8, y9⟩ := id hy
  rw [hm] at y2
  have hT2 := y2.newO hn (by omega)
  obtain ⟨g1, g2⟩ := grow (al := al) (q := q) y2 (inn_1 hn).1 (inn_1 hn).2.1 (zNew_in hn) he q1 q2
  have KK := K (alUp al w.2.1 q) H1 locs la ⟨⟨⟨y1.1.1.trans (nle_1 (show w.2.1 + 1 ≤ 130 by omega)), y1.1.2⟩, hle⟩, hT2, all_cons (PVok.R.mpr ⟨(inn_1 hn).2.2, h1, rfl⟩) (fun v hv => (y3 v hv).mono (nle_1 (show w.2.1 + 1 ≤ 130 by omega))), fun i v hv => (y4 i v hv).mono (nle_1 (show w.2.1 + 1 ≤ 130 by omega)), fun p hp => (alUp_in (inn_1 hn).2.1 p (hp.mono y1.1.1)).trans (y5 p hp), y6.congr (alUp_in (inn_1 hn).2.1) y4, g1, g2, q3⟩
  rw [cn_add y1.1 (cw_1 (by omega)), sn_add y1.1 (SL_1 hn)] at KK
  have hst9 : (pvR k (ln w.2.1) w.2.1 :: st).map (vl (alUp al w.2.1 q) b) = .ref q :: st.map (vl al b) := by
    rw [List.map_cons, vl_R, alUp_n]
    congr 1
    exact List.map_congr_left fun v hv => vl_congr (alUp_in (inn_1 hn).2.1) (y3 v hv)
  rw [hst9] at KK
  exact KK
theorem s_newarr {Z : Act} {B : Bg} (hC : Cx Z B) {pc k : Nat} {a : ArrayType} {L : Lc} {w : Wd} {st : List PV} (hd : decode (mB B.1) pc = .ok (.newarray a, 2)) (hm : w.1 = false) (hn : w.2.1 < 130) (ha : arrK a = some k) (h1 : sh w.2.1 = k) (hl : ln w.2.1 ≤ 20000) (hle : le (false, w.2.1 + 1, w.2.2.1, zNew w.2.2.2 w.2.1) B.2.2.2.2.1)
    (K : GX Z B (pc + 2) L (pvR k (ln w.2.1) w.2.1 :: st) (false, w.2.1 + 1, w.2.2.1, zNew w.2.2.2 w.2.1)) : GX Z B pc L (pvI (ln w.2.1 : Int) :: st) w := by
  have hk : k = 12 ∨ k = 13 ∨ k = 14 := by cases a <;> simp [arrK] at ha <;> omega
  have KG := fun (q : Nat) (H1 : Heap) (locs : List Loc) (la : Array Slot) (al : Nat → Nat) (e : va_E) => grow_goal (q := q) (al := al) (H1 := H1) (locs := locs) (la := la) (e := e) K hm hn h1 (by omega) hle
  obtain ⟨p, l, e, R, s, m, args, below, meth, c, D, cs, A, Q⟩ := Z
  obtain ⟨M, d, w0, al0, o, X, b⟩ := B
  obtain ⟨⟨hx, hb, hml, hown⟩, hts, hA, ⟨hlk, hst, hrt, hin, hex⟩, hMF, ⟨hR1, hR2, hR3, hR4⟩, hXs⟩ := hC
  intro al H locs la hy
  obtain ⟨y1, y2, y3, y4, y5, y6, y7, y8, y9⟩ := id hy
  have hle : le (false, w.2.1 + 1, w.2.2.1, zNew w.2.2.2 w.2.1) o := hle
  have hz : zSz w.2.1 = ln w.2.1 := by unfold zSz; rw [if_neg (by omega)]
  have hc8 := cn_le (w0 := w0) hle
  have hs8 := sn_le (w0 := w0) hle
  rw [cn_add y1.1 (cw_1 (by omega))] at hc8
  rw [sn_add y1.1 (SL_1 hn), hz] at hs8
  have hr : r32 (ln w.2.1 : Int) := all_hd y3
  have hn0 : ¬ Int32.ofInt (ln w.2.1 : Int) < 0 := fun h => by have := (i_lt hr (r32_c rfl : r32 0)).mp h; omega
  have hN : (Int32.ofInt (ln w.2.1 : Int)).toNatClampNeg = ln w.2.1 := by have := r32_cl hr (by omega); omega
  have hy2 := hy.st (all_tl y3)
  rcases hk with rfl | rfl | rfl
  · have : a = .int := by cases a <;> simp [arrK] at ha <;> rfl
    subst this
    refine va_newa (atype := .int) (a0 := (ln w.2.1, .inl fun _ => 0)) (n := Int32.ofInt (ln w.2.1 : Int)) (N' := ln w.2.1) hx hb (hts _ (by decide +kernel)) rfl hMF.1 y7 y8 y9 hA (fun cA => rfl) hn0 hN (by show ln w.2.1 * 4 ≤ _; omega) (by omega) (by omega) hd (fun q cA H1 q0 q1 q2 q3 => ?_)
    have hcA : cA = cs.1 := by
      have h5 := (q0.2 5 (cA, .int) rfl).2
      have h6 := (q0.2 0 (cs.1, .int) rfl).2
      exact Option.some.inj (h5.symm.trans h6)
    subst hcA
    have := KG q H1 locs la al _ H hy2 (cel_n12 h1) q1 q2 q3
    rw [hz] at this
    exact this
  · have : a = .long := by cases a <;> simp [arrK] at ha <;> rfl
    subst this
    refine va_newa (atype := .long) (a0 := (ln w.2.1, .inr (.inl fun _ => 0))) (n := Int32.ofInt (ln w.2.1 : Int)) (N' := ln w.2.1) hx hb (hts _ (by decide +kernel)) rfl hMF.1 y7 y8 y9 hA (fun cA => rfl) hn0 hN (by show ln w.2.1 * 8 ≤ _; omega) (by omega) (by omega) hd (fun q cA H1 q0 q1 q2 q3 => ?_)
    have hcA : cA = cs.2.1 := by
      have h5 := (q0.2 5 (cA, .long) rfl).2
      have h6 := (q0.2 1 (cs.2.1, .long) rfl).2
      exact Option.some.inj (h5.symm.trans h6)
    subst hcA
    have := KG q H1 locs la al _ H hy2 (cel_n13 h1) q1 q2 q3
    rw [hz] at this
    exact this
  · have : a = .boolean := by cases a <;> simp [arrK] at ha <;> rfl
    subst this
    refine va_newa (atype := .boolean) (a0 := (ln w.2.1, .inl fun _ => 0)) (n := Int32.ofInt (ln w.2.1 : Int)) (N' := ln w.2.1) hx hb (hts _ (by decide +kernel)) rfl hMF.1 y7 y8 y9 hA (fun cA => rfl) hn0 hN (by show ln w.2.1 * 1 ≤ _; omega) (by omega) (by omega) hd (fun q cA H1 q0 q1 q2 q3 => ?_)
    have hcA : cA = cs.2.2.1 := by
      have h5 := (q0.2 5 (cA, .boolean) rfl).2
      have h6 := (q0.2 2 (cs.2.2.1, .boolean) rfl).2
      exact Option.some.inj (h5.symm.trans h6)
    subst hcA
    have := KG q H1 locs la al _ H hy2 (cel_n14 h1) q1 q2 q3
    rw [hz] at this
    exact this
theorem s_anew {Z : Act} {B : Bg} (hC : Cx Z B) {pc idx : Nat} {L : Lc} {w : Wd} {st : List PV} (hd : decode (mB B.1) pc = .ok (.anewarray idx, 3)) (hm : w.1 = false) (hn : w.2.1 < 130) (hi : rNew (mC B.1) idx = some 2) (h1 : sh w.2.1 = 15) (hl : ln w.2.1 = 12) (hle : le (false, w.2.1 + 1, w.2.2.1, zNew w.2.2.2 w.2.1) B.2.2.2.2.1)
    (K : GX Z B (pc + 3) L (pvR 15 12 w.2.1 :: st) (false, w.2.1 + 1, w.2.2.1, zNew w.2.2.2 w.2.1)) : GX Z B pc L (pvI 12 :: st) w := by
  rw [← hl] at K
  have KG := fun (q : Nat) (H1 : Heap) (locs : List Loc) (la : Array Slot) (al : Nat → Nat) (e : va_E) => grow_goal (q := q) (al := al) (H1 := H1) (locs := locs) (la := la) (e := e) K hm hn h1 (by omega) hle
  obtain ⟨p, l, e, R, s, m, args, below, meth, c, D, cs, A, Q⟩ := Z
  obtain ⟨M, d, w0, al0, o, X, b⟩ := B
  obtain ⟨⟨hx, hb, hml, hown⟩, hts, hA, ⟨hlk, hst, hrt, hin, hex⟩, hMF, ⟨hR1, hR2, hR3, hR4⟩, hXs⟩ := hC
  intro al H locs la hy
  obtain ⟨y1, y2, y3, y4, y5, y6, y7, y8, y9⟩ := id hy
  obtain ⟨C, T, N, hkk, hC9, w1, w2, w3⟩ := new_word hi
  have hle : le (false, w.2.1 + 1, w.2.2.1, zNew w.2.2.2 w.2.1) o := hle
  have hz : zSz w.2.1 = 12 := by unfold zSz; rw [if_neg (by omega), hl]
  have hc8 := cn_le (w0 := w0) hle
  have hs8 := sn_le (w0 := w0) hle
  rw [cn_add y1.1 (cw_1 (by omega))] at hc8
  rw [sn_add y1.1 (SL_1 hn), hz] at hs8
  have hy2 := hy.st (all_tl y3)
  have hC2 : C = RX2 := by rw [hC9]; rfl
  subst hC2
  refine va_newq (n := Int32.ofInt 12) (N' := 12) hx hb hown (hts _ w1) hMF.2.2.2.2.2.2.2.1 hMF.1 y7 y8 y9 hA (by decide) (by decide) (by decide) (by omega) (by omega) hd (fun q cA H1 q0 q1 q2 q3 => ?_)
  have hcA : cA = cs.2.2.2.1 := by
    obtain ⟨kA, comp, -, -, -, h5⟩ := (q0.2 5 (cA, .object RX2) rfl).2
    obtain ⟨kA2, comp2, -, -, -, h6⟩ := (q0.2 3 (cs.2.2.2.1, .object RX2) rfl).2
    exact Option.some.inj (h5.symm.trans h6)
  subst hcA
  have hce : cel (alUp al w.2.1 q) cs (zNew w.2.2.2 w.2.1 w.2.1) w.2.1 = .inl (cs.2.2.2.1, 12, .inr (.inr (.inr (.inr fun _ => none)))) := by rw [cel_n15 h1, hl]
  have := KG q H1 locs la al _ H hy2 hce q1 q2 q3
  rw [hz] at this
  exact this

/-! ===== the simple instructions hold at the machine ===== -/
theorem q_r32 {x y : Int} (h : r32 x) (hp : 0 < y) : r32 (x.tdiv y) := by
  have h1 := Int.natAbs_tdiv_le_natAbs x y
  unfold r32 at h ⊢
  rcases Int.lt_or_le x 0 with hx | hx
  · have h2 : 0 ≤ (-x).tdiv y := Int.tdiv_nonneg (by omega) (by omega)
    rw [Int.neg_tdiv] at h2
    omega
  · have : 0 ≤ x.tdiv y := Int.tdiv_nonneg hx (by omega)
    omega
theorem tmod_b {x y : Int} (hp : 0 < y) : x.tmod y < y ∧ - y < x.tmod y := ⟨Int.tmod_lt_of_pos x hp, by
  have := Int.tmod_lt_of_pos (-x) hp
  rw [Int.neg_tmod] at this
  omega⟩
theorem m_r32 {x y : Int} (_ : r32 x) (h : r32 y) (hp : 0 < y) : r32 (x.tmod y) := by
  have := tmod_b (x := x) hp
  unfold r32 at h ⊢
  omega
theorem m_r64 {x y : Int} (_ : r64 x) (h : r64 y) (hp : 0 < y) : r64 (x.tmod y) := by
  have := tmod_b (x := x) hp
  unfold r64 at h ⊢
  omega
theorem i_rem {x y : Int} (hx : r32 x) (hy : r32 y) : Int32.ofInt x - Int32.ofInt x / Int32.ofInt y * Int32.ofInt y = Int32.ofInt (x.tmod y) := by
  rw [i_div hx hy, idiv, of_w32, i_mul, of_w32, i_sub, of_w32, Int.tmod_def, Int.mul_comm y]
theorem l_rem {x y : Int} (hx : r64 x) (hy : r64 y) : Int64.ofInt x - Int64.ofInt x / Int64.ofInt y * Int64.ofInt y = Int64.ofInt (x.tmod y) := by
  rw [l_div hx hy, ldiv, of_w64, l_mul, of_w64, l_sub, of_w64, Int.tmod_def, Int.mul_comm y]
theorem of_iand (x y : Int) : Int32.ofInt x &&& Int32.ofInt y = Int32.ofInt (iand x y) := by unfold iand; rw [of_toInt32]
theorem of_ior (x y : Int) : Int32.ofInt x ||| Int32.ofInt y = Int32.ofInt (ior x y) := by unfold ior; rw [of_toInt32]
theorem of_ishl (x y : Int) : Int32.ofInt x <<< (Int32.ofInt y &&& 31) = Int32.ofInt (ishl x y) := by unfold ishl; rw [of_toInt32]
theorem of_ishr (x y : Int) : Int32.ofInt x >>> (Int32.ofInt y &&& 31) = Int32.ofInt (ishr x y) := by unfold ishr; rw [of_toInt32]
theorem r32_lcm (x y : Int) : r32 (lcm x y) := by unfold lcm r32; split <;> (try split) <;> omega
theorem lg_lcm {x y : Int} (hx : r64 x) (hy : r64 y) : lg_cmp (Int64.ofInt x) (Int64.ofInt y) = Int32.ofInt (lcm x y) := by
  unfold lg_cmp lcm
  by_cases h1 : x < y
  · have a : ¬ (Int64.ofInt y < Int64.ofInt x) := fun z => by have := (l_lt hy hx).mp z; omega
    have b : ¬ (Int64.ofInt x = Int64.ofInt y) := fun z => by have := (l_eq hx hy).mp z; omega
    rw [if_neg a, if_neg b, if_pos h1]; rfl
  · by_cases h2 : x = y
    · subst h2
      have a : ¬ (Int64.ofInt x < Int64.ofInt x) := fun z => by have := (l_lt hy hx).mp z; omega
      rw [if_neg a, if_pos rfl, if_neg h1, if_pos rfl]; rfl
    · have a : Int64.ofInt y < Int64.ofInt x := (l_lt hy hx).mpr (by omega)
      rw [if_pos a, if_neg h1, if_neg h2]; rfl
theorem i_l {x : Int} (h : r32 x) : (Int32.ofInt x).toInt64 = Int64.ofInt x := by
  apply Int64.toInt_inj.mp
  rw [toInt64_r (show r64 x by unfold r32 at h; unfold r64; omega), Int32.toInt_toInt64, toInt32_r h]
theorem l_i {x : Int} (h : r32 x) : (Int64.ofInt x).toInt32 = Int32.ofInt x := by
  apply Int32.toInt_inj.mp
  have h6 : r64 x := by unfold r32 at h; unfold r64; omega
  rw [toInt32_r h, Int64.toInt_toInt32, toInt64_r h6]
  unfold r32 at h
  simp [Int.bmod]
  omega
theorem lc_ok : ∀ q : Fin 2, Int64.ofNat (q : Nat) = Int64.ofInt ((q : Nat) : Int) := by decide
theorem find_mem {α : Type} {l : List (Nat × Nat × α)} {c i : Nat} {x : α} (h : ((l.find? fun q => q.1 == c && q.2.1 == i).map fun q => q.2.2) = some x) : (c, i, x) ∈ l := by
  cases h9 : l.find? fun q => q.1 == c && q.2.1 == i with
  | none => rw [h9] at h; cases h
  | some q =>
    rw [h9] at h
    cases h
    have h1 := List.find?_some h9
    have h2 := List.mem_of_find?_eq_some h9
    simp at h1
    obtain ⟨a, b', x'⟩ := q
    obtain ⟨h3, h4⟩ := h1
    dsimp only at h3 h4
    subst h3; subst h4
    exact h2
def cstOk (q : Nat × Nat × Nat × Int) : Bool := if q.2.2.1 = 0 then decide (Cond.constant (zOwn q.1) q.2.1 (Int32.ofInt q.2.2.2) ∈ lw_good) else decide (Cond.constantLong (zOwn q.1) q.2.1 (Int64.ofInt q.2.2.2) ∈ lw_good)
theorem cst_ok : rCstL.all cstOk = true := by decide +kernel
theorem cst_word {c i : Nat} {v : Int} (h : rCst c i = some (0, v)) : Cond.constant (zOwn c) i (Int32.ofInt v) ∈ lw_good := by
  have h1 := List.all_eq_true.mp cst_ok _ (find_mem h)
  unfold cstOk at h1
  simp only [if_true] at h1
  exact of_decide_eq_true h1
theorem cst_wordL {c i : Nat} {v : Int} (h : rCst c i = some (1, v)) : Cond.constantLong (zOwn c) i (Int64.ofInt v) ∈ lw_good := by
  have h1 := List.all_eq_true.mp cst_ok _ (find_mem h)
  unfold cstOk at h1
  rw [if_neg (show ¬ ((c, i, 1, v) : Nat × Nat × Nat × Int).2.2.1 = 0 from Nat.one_ne_zero)] at h1
  exact of_decide_eq_true h1
theorem s_iconst {Z : Act} {B : Bg} (hC : Cx Z B) {pc : Nat} {L : Lc} {w : Wd} {st : List PV} {v : Int} (hd : decode (mB B.1) pc = .ok (.iconst v, 1)) (hr : r32 v) (K : GX Z B (pc + 1) L (pvI v :: st) w) : GX Z B pc L (st) w := by
  obtain ⟨p, l, e, R, s, m, args, below, meth, c, D, cs, A, Q⟩ := Z
  obtain ⟨M, d, w0, al0, o, X, b⟩ := B
  obtain ⟨⟨hx, hb, hml, hown⟩, hts, hA, ⟨hlk, hst, hrt, hin, hex⟩, hMF, hR, hXs⟩ := hC
  intro al H locs la hy
  obtain ⟨y1, y2, y3, y4, y5, y6, y7, y8, y9⟩ := id hy
  exact lv_iconst hx hb hd rfl (K al H locs la (hy.st (all_cons hr y3)))
theorem s_bipush {Z : Act} {B : Bg} (hC : Cx Z B) {pc : Nat} {L : Lc} {w : Wd} {st : List PV} {v : Int} (hd : decode (mB B.1) pc = .ok (.bipush v, 2)) (hr : r32 v) (h8 : (Int8.ofInt v).toInt32 = Int32.ofInt v) (K : GX Z B (pc + 2) L (pvI v :: st) w) : GX Z B pc L (st) w := by
  obtain ⟨p, l, e, R, s, m, args, below, meth, c, D, cs, A, Q⟩ := Z
  obtain ⟨M, d, w0, al0, o, X, b⟩ := B
  obtain ⟨⟨hx, hb, hml, hown⟩, hts, hA, ⟨hlk, hst, hrt, hin, hex⟩, hMF, hR, hXs⟩ := hC
  intro al H locs la hy
  obtain ⟨y1, y2, y3, y4, y5, y6, y7, y8, y9⟩ := id hy
  exact lv_bipush hx hb hd h8 (K al H locs la (hy.st (all_cons hr y3)))
theorem s_sipush {Z : Act} {B : Bg} (hC : Cx Z B) {pc : Nat} {L : Lc} {w : Wd} {st : List PV} {v : Int} (hd : decode (mB B.1) pc = .ok (.sipush v, 3)) (hr : r32 v) (h8 : (Int16.ofInt v).toInt32 = Int32.ofInt v) (K : GX Z B (pc + 3) L (pvI v :: st) w) : GX Z B pc L (st) w := by
  obtain ⟨p, l, e, R, s, m, args, below, meth, c, D, cs, A, Q⟩ := Z
  obtain ⟨M, d, w0, al0, o, X, b⟩ := B
  obtain ⟨⟨hx, hb, hml, hown⟩, hts, hA, ⟨hlk, hst, hrt, hin, hex⟩, hMF, hR, hXs⟩ := hC
  intro al H locs la hy
  obtain ⟨y1, y2, y3, y4, y5, y6, y7, y8, y9⟩ := id hy
  exact lv_sipush hx hb hd h8 (K al H locs la (hy.st (all_cons hr y3)))
theorem s_lconst {Z : Act} {B : Bg} (hC : Cx Z B) {pc : Nat} {L : Lc} {w : Wd} {st : List PV} {v : Fin 2} (hd : decode (mB B.1) pc = .ok (.lconst v, 1)) (K : GX Z B (pc + 1) L (pvL ((v : Nat) : Int) :: st) w) : GX Z B pc L (st) w := by
  obtain ⟨p, l, e, R, s, m, args, below, meth, c, D, cs, A, Q⟩ := Z
  obtain ⟨M, d, w0, al0, o, X, b⟩ := B
  obtain ⟨⟨hx, hb, hml, hown⟩, hts, hA, ⟨hlk, hst, hrt, hin, hex⟩, hMF, hR, hXs⟩ := hC
  intro al H locs la hy
  obtain ⟨y1, y2, y3, y4, y5, y6, y7, y8, y9⟩ := id hy
  have hr : r64 ((v : Nat) : Int) := by have := v.isLt; unfold r64; omega
  exact lv_lconst (v := Int64.ofInt ((v : Nat) : Int)) hx hb hd (lc_ok v) (K al H locs la (hy.st (all_cons hr y3)))
theorem s_anull {Z : Act} {B : Bg} (hC : Cx Z B) {pc : Nat} {L : Lc} {w : Wd} {st : List PV} (hd : decode (mB B.1) pc = .ok (.aconst_null, 1)) (K : GX Z B (pc + 1) L (pvF (-1) :: st) w) : GX Z B pc L (st) w := by
  obtain ⟨p, l, e, R, s, m, args, below, meth, c, D, cs, A, Q⟩ := Z
  obtain ⟨M, d, w0, al0, o, X, b⟩ := B
  obtain ⟨⟨hx, hb, hml, hown⟩, hts, hA, ⟨hlk, hst, hrt, hin, hex⟩, hMF, hR, hXs⟩ := hC
  intro al H locs la hy
  obtain ⟨y1, y2, y3, y4, y5, y6, y7, y8, y9⟩ := id hy
  exact lv_null hx hb hd (K al H locs la (hy.st (all_cons (Or.inl rfl) y3)))
theorem s_ldc {Z : Act} {B : Bg} (hC : Cx Z B) {pc : Nat} {L : Lc} {w : Wd} {st : List PV} {idx : Nat} {v : Int} (hd : decode (mB B.1) pc = .ok (.ldc idx, 2)) (hr : r32 v) (hc : rCst (mC B.1) idx = some (0, v)) (K : GX Z B (pc + 2) L (pvI v :: st) w) : GX Z B pc L (st) w := by
  obtain ⟨p, l, e, R, s, m, args, below, meth, c, D, cs, A, Q⟩ := Z
  obtain ⟨M, d, w0, al0, o, X, b⟩ := B
  obtain ⟨⟨hx, hb, hml, hown⟩, hts, hA, ⟨hlk, hst, hrt, hin, hex⟩, hMF, hR, hXs⟩ := hC
  intro al H locs la hy
  obtain ⟨y1, y2, y3, y4, y5, y6, y7, y8, y9⟩ := id hy
  exact lv_ldc hx hb hown (hts _ (cst_word hc)) hd (K al H locs la (hy.st (all_cons hr y3)))
theorem s_ldcw {Z : Act} {B : Bg} (hC : Cx Z B) {pc : Nat} {L : Lc} {w : Wd} {st : List PV} {idx : Nat} {v : Int} (hd : decode (mB B.1) pc = .ok (.ldc_w idx, 3)) (hr : r32 v) (hc : rCst (mC B.1) idx = some (0, v)) (K : GX Z B (pc + 3) L (pvI v :: st) w) : GX Z B pc L (st) w := by
  obtain ⟨p, l, e, R, s, m, args, below, meth, c, D, cs, A, Q⟩ := Z
  obtain ⟨M, d, w0, al0, o, X, b⟩ := B
  obtain ⟨⟨hx, hb, hml, hown⟩, hts, hA, ⟨hlk, hst, hrt, hin, hex⟩, hMF, hR, hXs⟩ := hC
  intro al H locs la hy
  obtain ⟨y1, y2, y3, y4, y5, y6, y7, y8, y9⟩ := id hy
  exact lv_ldcw hx hb hown (hts _ (cst_word hc)) hd (K al H locs la (hy.st (all_cons hr y3)))
theorem s_ldc2 {Z : Act} {B : Bg} (hC : Cx Z B) {pc : Nat} {L : Lc} {w : Wd} {st : List PV} {idx : Nat} {v : Int} (hd : decode (mB B.1) pc = .ok (.ldc2_w idx, 3)) (hr : r64 v) (hc : rCst (mC B.1) idx = some (1, v)) (K : GX Z B (pc + 3) L (pvL v :: st) w) : GX Z B pc L (st) w := by
  obtain ⟨p, l, e, R, s, m, args, below, meth, c, D, cs, A, Q⟩ := Z
  obtain ⟨M, d, w0, al0, o, X, b⟩ := B
  obtain ⟨⟨hx, hb, hml, hown⟩, hts, hA, ⟨hlk, hst, hrt, hin, hex⟩, hMF, hR, hXs⟩ := hC
  intro al H locs la hy
  obtain ⟨y1, y2, y3, y4, y5, y6, y7, y8, y9⟩ := id hy
  exact lv_ldc2 hx hb hown (hts _ (cst_wordL hc)) hd (K al H locs la (hy.st (all_cons hr y3)))
theorem s_iload_n {Z : Act} {B : Bg} (hC : Cx Z B) {pc : Nat} {L : Lc} {w : Wd} {st : List PV} {k : Fin 4} {x : Int} (hd : decode (mB B.1) pc = .ok (.iload_n k, 1)) (h : L[(k : Nat)]? = some (some (pvI x))) (K : GX Z B (pc + 1) L (pvI x :: st) w) : GX Z B pc L (st) w := by
  obtain ⟨p, l, e, R, s, m, args, below, meth, c, D, cs, A, Q⟩ := Z
  obtain ⟨M, d, w0, al0, o, X, b⟩ := B
  obtain ⟨⟨hx, hb, hml, hown⟩, hts, hA, ⟨hlk, hst, hrt, hin, hex⟩, hMF, hR, hXs⟩ := hC
  intro al H locs la hy
  obtain ⟨y1, y2, y3, y4, y5, y6, y7, y8, y9⟩ := id hy
  exact lv_iload_n hx hb hd rfl (y6.2.2.2 _ _ h) (K al H locs la (hy.st (all_cons (y4 _ _ h) y3)))
theorem s_iload {Z : Act} {B : Bg} (hC : Cx Z B) {pc : Nat} {L : Lc} {w : Wd} {st : List PV} {k : Nat} {x : Int} (hd : decode (mB B.1) pc = .ok (.iload k, 2)) (h : L[k]? = some (some (pvI x))) (K : GX Z B (pc + 2) L (pvI x :: st) w) : GX Z B pc L (st) w := by
  obtain ⟨p, l, e, R, s, m, args, below, meth, c, D, cs, A, Q⟩ := Z
  obtain ⟨M, d, w0, al0, o, X, b⟩ := B
  obtain ⟨⟨hx, hb, hml, hown⟩, hts, hA, ⟨hlk, hst, hrt, hin, hex⟩, hMF, hR, hXs⟩ := hC
  intro al H locs la hy
  obtain ⟨y1, y2, y3, y4, y5, y6, y7, y8, y9⟩ := id hy
  exact lv_iload hx hb hd (y6.2.2.2 _ _ h) (K al H locs la (hy.st (all_cons (y4 _ _ h) y3)))
theorem s_lload_n {Z : Act} {B : Bg} (hC : Cx Z B) {pc : Nat} {L : Lc} {w : Wd} {st : List PV} {k : Fin 4} {x : Int} (hd : decode (mB B.1) pc = .ok (.lload_n k, 1)) (h : L[(k : Nat)]? = some (some (pvL x))) (K : GX Z B (pc + 1) L (pvL x :: st) w) : GX Z B pc L (st) w := by
  obtain ⟨p, l, e, R, s, m, args, below, meth, c, D, cs, A, Q⟩ := Z
  obtain ⟨M, d, w0, al0, o, X, b⟩ := B
  obtain ⟨⟨hx, hb, hml, hown⟩, hts, hA, ⟨hlk, hst, hrt, hin, hex⟩, hMF, hR, hXs⟩ := hC
  intro al H locs la hy
  obtain ⟨y1, y2, y3, y4, y5, y6, y7, y8, y9⟩ := id hy
  exact lv_lload_n hx hb hd rfl (y6.2.2.2 _ _ h) (K al H locs la (hy.st (all_cons (y4 _ _ h) y3)))
theorem s_lload {Z : Act} {B : Bg} (hC : Cx Z B) {pc : Nat} {L : Lc} {w : Wd} {st : List PV} {k : Nat} {x : Int} (hd : decode (mB B.1) pc = .ok (.lload k, 2)) (h : L[k]? = some (some (pvL x))) (K : GX Z B (pc + 2) L (pvL x :: st) w) : GX Z B pc L (st) w := by
  obtain ⟨p, l, e, R, s, m, args, below, meth, c, D, cs, A, Q⟩ := Z
  obtain ⟨M, d, w0, al0, o, X, b⟩ := B
  obtain ⟨⟨hx, hb, hml, hown⟩, hts, hA, ⟨hlk, hst, hrt, hin, hex⟩, hMF, hR, hXs⟩ := hC
  intro al H locs la hy
  obtain ⟨y1, y2, y3, y4, y5, y6, y7, y8, y9⟩ := id hy
  exact lv_lload hx hb hd (y6.2.2.2 _ _ h) (K al H locs la (hy.st (all_cons (y4 _ _ h) y3)))
theorem s_aload_n {Z : Act} {B : Bg} (hC : Cx Z B) {pc : Nat} {L : Lc} {w : Wd} {st : List PV} {k : Fin 4} {v : PV} (hd : decode (mB B.1) pc = .ok (.aload_n k, 1)) (h : L[(k : Nat)]? = some (some v)) (hv : 2 ≤ v.1) (K : GX Z B (pc + 1) L (v :: st) w) : GX Z B pc L (st) w := by
  obtain ⟨p, l, e, R, s, m, args, below, meth, c, D, cs, A, Q⟩ := Z
  obtain ⟨M, d, w0, al0, o, X, b⟩ := B
  obtain ⟨⟨hx, hb, hml, hown⟩, hts, hA, ⟨hlk, hst, hrt, hin, hex⟩, hMF, hR, hXs⟩ := hC
  intro al H locs la hy
  obtain ⟨y1, y2, y3, y4, y5, y6, y7, y8, y9⟩ := id hy
  have hl := y6.2.2.2 _ _ h
  have KK := K al H locs la (hy.st (all_cons (y4 _ _ h) y3))
  rcases vl_ref (al := al) (b := b) (n := w.2.1) hv with h0 | ⟨a, h0⟩
  · have KK : W p l e R s m args below meth c H locs (cn w w0) (sn w w0) Q (F0 m (pc + 1) la (vl al b v :: st.map (vl al b))) := KK
    rw [h0] at KK hl
    exact lv_aload_nN hx hb hd rfl hl KK
  · have KK : W p l e R s m args below meth c H locs (cn w w0) (sn w w0) Q (F0 m (pc + 1) la (vl al b v :: st.map (vl al b))) := KK
    rw [h0] at KK hl
    exact lv_aload_n hx hb hd rfl hl KK
theorem s_aload {Z : Act} {B : Bg} (hC : Cx Z B) {pc : Nat} {L : Lc} {w : Wd} {st : List PV} {k : Nat} {v : PV} (hd : decode (mB B.1) pc = .ok (.aload k, 2)) (h : L[k]? = some (some v)) (hv : 2 ≤ v.1) (K : GX Z B (pc + 2) L (v :: st) w) : GX Z B pc L (st) w := by
  obtain ⟨p, l, e, R, s, m, args, below, meth, c, D, cs, A, Q⟩ := Z
  obtain ⟨M, d, w0, al0, o, X, b⟩ := B
  obtain ⟨⟨hx, hb, hml, hown⟩, hts, hA, ⟨hlk, hst, hrt, hin, hex⟩, hMF, hR, hXs⟩ := hC
  intro al H locs la hy
  obtain ⟨y1, y2, y3, y4, y5, y6, y7, y8, y9⟩ := id hy
  have hl := y6.2.2.2 _ _ h
  have KK := K al H locs la (hy.st (all_cons (y4 _ _ h) y3))
  rcases vl_ref (al := al) (b := b) (n := w.2.1) hv with h0 | ⟨a, h0⟩
  · have KK : W p l e R s m args below meth c H locs (cn w w0) (sn w w0) Q (F0 m (pc + 2) la (vl al b v :: st.map (vl al b))) := KK
    rw [h0] at KK hl
    exact lv_aloadN hx hb hd hl KK
  · have KK : W p l e R s m args below meth c H locs (cn w w0) (sn w w0) Q (F0 m (pc + 2) la (vl al b v :: st.map (vl al b))) := KK
    rw [h0] at KK hl
    exact lv_aload hx hb hd hl KK
theorem s_istore_n {Z : Act} {B : Bg} (hC : Cx Z B) {pc : Nat} {L : Lc} {w : Wd} {st : List PV} {k : Fin 4} {x : Int} (hd : decode (mB B.1) pc = .ok (.istore_n k, 1)) (hk : (k : Nat) < L.length) (K : GX Z B (pc + 1) (sto1 L (k : Nat) (pvI x)) (st) w) : GX Z B pc L (pvI x :: st) w := by
  obtain ⟨p, l, e, R, s, m, args, below, meth, c, D, cs, A, Q⟩ := Z
  obtain ⟨M, d, w0, al0, o, X, b⟩ := B
  obtain ⟨⟨hx, hb, hml, hown⟩, hts, hA, ⟨hlk, hst, hrt, hin, hex⟩, hMF, hR, hXs⟩ := hC
  intro al H locs la hy
  obtain ⟨y1, y2, y3, y4, y5, y6, y7, y8, y9⟩ := id hy
  have hk2 : (k : Nat) < mL M := by rw [← y6.1]; exact hk
  refine lv_istore_n hx hb hd rfl y6.has hk2 rfl (fun la2 hl2 => ?_)
  refine K al H locs la2 ⟨y1, y2, all_tl y3, fun i v hv => ?_, y5, LH.put1 (v := pvI x) y6.1 hk2 hl2, y7, y8, y9⟩
  rcases sto1_get hk hv with ⟨-, rfl⟩ | ⟨-, h2, -⟩
  · exact all_hd y3
  · exact y4 _ _ h2
theorem s_istore {Z : Act} {B : Bg} (hC : Cx Z B) {pc : Nat} {L : Lc} {w : Wd} {st : List PV} {k : Nat} {x : Int} (hd : decode (mB B.1) pc = .ok (.istore k, 2)) (hk : k < L.length) (K : GX Z B (pc + 2) (sto1 L k (pvI x)) (st) w) : GX Z B pc L (pvI x :: st) w := by
  obtain ⟨p, l, e, R, s, m, args, below, meth, c, D, cs, A, Q⟩ := Z
  obtain ⟨M, d, w0, al0, o, X, b⟩ := B
  obtain ⟨⟨hx, hb, hml, hown⟩, hts, hA, ⟨hlk, hst, hrt, hin, hex⟩, hMF, hR, hXs⟩ := hC
  intro al H locs la hy
  obtain ⟨y1, y2, y3, y4, y5, y6, y7, y8, y9⟩ := id hy
  have hk2 : k < mL M := by rw [← y6.1]; exact hk
  refine lv_istore hx hb hd y6.has hk2 rfl (fun la2 hl2 => ?_)
  refine K al H locs la2 ⟨y1, y2, all_tl y3, fun i v hv => ?_, y5, LH.put1 (v := pvI x) y6.1 hk2 hl2, y7, y8, y9⟩
  rcases sto1_get hk hv with ⟨-, rfl⟩ | ⟨-, h2, -⟩
  · exact all_hd y3
  · exact y4 _ _ h2
theorem s_lstore_n {Z : Act} {B : Bg} (hC : Cx Z B) {pc : Nat} {L : Lc} {w : Wd} {st : List PV} {k : Fin 4} {x : Int} (hd : decode (mB B.1) pc = .ok (.lstore_n k, 1)) (hk : (k : Nat) + 1 < L.length) (K : GX Z B (pc + 1) (sto2 L (k : Nat) (pvL x)) (st) w) : GX Z B pc L (pvL x :: st) w := by
  obtain ⟨p, l, e, R, s, m, args, below, meth, c, D, cs, A, Q⟩ := Z
  obtain ⟨M, d, w0, al0, o, X, b⟩ := B
  obtain ⟨⟨hx, hb, hml, hown⟩, hts, hA, ⟨hlk, hst, hrt, hin, hex⟩, hMF, hR, hXs⟩ := hC
  intro al H locs la hy
  obtain ⟨y1, y2, y3, y4, y5, y6, y7, y8, y9⟩ := id hy
  have hk2 : (k : Nat) + 1 < mL M := by rw [← y6.1]; exact hk
  refine lv_lstore_n hx hb hd rfl y6.has hk2 rfl (fun la2 hl2 => ?_)
  refine K al H locs la2 ⟨y1, y2, all_tl y3, fun i v hv => ?_, y5, LH.put2 (v := pvL x) y6.1 hk2 hl2, y7, y8, y9⟩
  rcases sto2_get hk hv with ⟨-, rfl⟩ | ⟨-, -, h2, -⟩
  · exact all_hd y3
  · exact y4 _ _ h2
theorem s_lstore {Z : Act} {B : Bg} (hC : Cx Z B) {pc : Nat} {L : Lc} {w : Wd} {st : List PV} {k : Nat} {x : Int} (hd : decode (mB B.1) pc = .ok (.lstore k, 2)) (hk : k + 1 < L.length) (K : GX Z B (pc + 2) (sto2 L k (pvL x)) (st) w) : GX Z B pc L (pvL x :: st) w := by
  obtain ⟨p, l, e, R, s, m, args, below, meth, c, D, cs, A, Q⟩ := Z
  obtain ⟨M, d, w0, al0, o, X, b⟩ := B
  obtain ⟨⟨hx, hb, hml, hown⟩, hts, hA, ⟨hlk, hst, hrt, hin, hex⟩, hMF, hR, hXs⟩ := hC
  intro al H locs la hy
  obtain ⟨y1, y2, y3, y4, y5, y6, y7, y8, y9⟩ := id hy
  have hk2 : k + 1 < mL M := by rw [← y6.1]; exact hk
  refine lv_lstore hx hb hd y6.has hk2 rfl (fun la2 hl2 => ?_)
  refine K al H locs la2 ⟨y1, y2, all_tl y3, fun i v hv => ?_, y5, LH.put2 (v := pvL x) y6.1 hk2 hl2, y7, y8, y9⟩
  rcases sto2_get hk hv with ⟨-, rfl⟩ | ⟨-, -, h2, -⟩
  · exact all_hd y3
  · exact y4 _ _ h2
theorem s_astore_n {Z : Act} {B : Bg} (hC : Cx Z B) {pc : Nat} {L : Lc} {w : Wd} {st : List PV} {k : Fin 4} {v : PV} (hd : decode (mB B.1) pc = .ok (.astore_n k, 1)) (hk : (k : Nat) < L.length) (hv : 2 ≤ v.1) (K : GX Z B (pc + 1) (sto1 L (k : Nat) v) (st) w) : GX Z B pc L (v :: st) w := by
  obtain ⟨p, l, e, R, s, m, args, below, meth, c, D, cs, A, Q⟩ := Z
  obtain ⟨M, d, w0, al0, o, X, b⟩ := B
  obtain ⟨⟨hx, hb, hml, hown⟩, hts, hA, ⟨hlk, hst, hrt, hin, hex⟩, hMF, hR, hXs⟩ := hC
  intro al H locs la hy
  obtain ⟨y1, y2, y3, y4, y5, y6, y7, y8, y9⟩ := id hy
  have hk2 : (k : Nat) < mL M := by rw [← y6.1]; exact hk
  rcases vl_ref (al := al) (b := b) (n := w.2.1) hv with h0 | ⟨a, h0⟩
  · show W p l e R s m args below meth c H locs (cn w w0) (sn w w0) Q (F0 m pc la (vl al b v :: st.map (vl al b)))
    rw [h0]
    refine lv_astore_nN hx hb hd rfl y6.has hk2 rfl (fun la2 hl2 => ?_)
    refine K al H locs la2 ⟨y1, y2, all_tl y3, fun i v hv => ?_, y5, LH.put1 (v := v) y6.1 hk2 (by rw [h0]; exact hl2), y7, y8, y9⟩
    rcases sto1_get hk hv with ⟨-, rfl⟩ | ⟨-, h2, -⟩
    · exact all_hd y3
    · exact y4 _ _ h2
  · show W p l e R s m args below meth c H locs (cn w w0) (sn w w0) Q (F0 m pc la (vl al b v :: st.map (vl al b)))
    rw [h0]
    refine lv_astore_n hx hb hd rfl y6.has hk2 rfl (fun la2 hl2 => ?_)
    refine K al H locs la2 ⟨y1, y2, all_tl y3, fun i v hv => ?_, y5, LH.put1 (v := v) y6.1 hk2 (by rw [h0]; exact hl2), y7, y8, y9⟩
    rcases sto1_get hk hv with ⟨-, rfl⟩ | ⟨-, h2, -⟩
    · exact all_hd y3
    · exact y4 _ _ h2
theorem s_astore {Z : Act} {B : Bg} (hC : Cx Z B) {pc : Nat} {L : Lc} {w : Wd} {st : List PV} {k : Nat} {v : PV} (hd : decode (mB B.1) pc = .ok (.astore k, 2)) (hk : k < L.length) (hv : 2 ≤ v.1) (K : GX Z B (pc + 2) (sto1 L k v) (st) w) : GX Z B pc L (v :: st) w := by
  obtain ⟨p, l, e, R, s, m, args, below, meth, c, D, cs, A, Q⟩ := Z
  obtain ⟨M, d, w0, al0, o, X, b⟩ := B
  obtain ⟨⟨hx, hb, hml, hown⟩, hts, hA, ⟨hlk, hst, hrt, hin, hex⟩, hMF, hR, hXs⟩ := hC
  intro al H locs la hy
  obtain ⟨y1, y2, y3, y4, y5, y6, y7, y8, y9⟩ := id hy
  have hk2 : k < mL M := by rw [← y6.1]; exact hk
  rcases vl_ref (al := al) (b := b) (n := w.2.1) hv with h0 | ⟨a, h0⟩
  · show W p l e R s m args below meth c H locs (cn w w0) (sn w w0) Q (F0 m pc la (vl al b v :: st.map (vl al b)))
    rw [h0]
    refine lv_astoreN hx hb hd y6.has hk2 rfl (fun la2 hl2 => ?_)
    refine K al H locs la2 ⟨y1, y2, all_tl y3, fun i v hv => ?_, y5, LH.put1 (v := v) y6.1 hk2 (by rw [h0]; exact hl2), y7, y8, y9⟩
    rcases sto1_get hk hv with ⟨-, rfl⟩ | ⟨-, h2, -⟩
    · exact all_hd y3
    · exact y4 _ _ h2
  · show W p l e R s m args below meth c H locs (cn w w0) (sn w w0) Q (F0 m pc la (vl al b v :: st.map (vl al b)))
    rw [h0]
    refine lv_astore hx hb hd y6.has hk2 rfl (fun la2 hl2 => ?_)
    refine K al H locs la2 ⟨y1, y2, all_tl y3, fun i v hv => ?_, y5, LH.put1 (v := v) y6.1 hk2 (by rw [h0]; exact hl2), y7, y8, y9⟩
    rcases sto1_get hk hv with ⟨-, rfl⟩ | ⟨-, h2, -⟩
    · exact all_hd y3
    · exact y4 _ _ h2
theorem s_iinc {Z : Act} {B : Bg} (hC : Cx Z B) {pc : Nat} {L : Lc} {w : Wd} {st : List PV} {k : Nat} {dd x : Int} (hd : decode (mB B.1) pc = .ok (.iinc k dd, 3)) (h : L[k]? = some (some (pvI x))) (hr : r32 (x + dd)) (K : GX Z B (pc + 3) (sto1 L k (pvI (x + dd))) (st) w) : GX Z B pc L (st) w := by
  obtain ⟨p, l, e, R, s, m, args, below, meth, c, D, cs, A, Q⟩ := Z
  obtain ⟨M, d, w0, al0, o, X, b⟩ := B
  obtain ⟨⟨hx, hb, hml, hown⟩, hts, hA, ⟨hlk, hst, hrt, hin, hex⟩, hMF, hR, hXs⟩ := hC
  intro al H locs la hy
  obtain ⟨y1, y2, y3, y4, y5, y6, y7, y8, y9⟩ := id hy
  have hk : k < L.length := (List.getElem?_eq_some_iff.mp h).1
  have hk2 : k < mL M := by rw [← y6.1]; exact hk
  obtain ⟨j, hj⟩ := List.getElem?_of_mem (asc_mem (al := al) (b := b) (L := L) (q := (k, .int (Int32.ofInt x))) |>.mpr ⟨pvI x, h, rfl⟩)
  refine lv_iinc (v := Int32.ofInt (x + dd)) hx hb hd y6.has hj (by rw [i_add, w32_id hr]) hk2 rfl (fun la2 hl2 => ?_)
  refine K al H locs la2 ⟨y1, y2, y3, fun i v hv => ?_, y5, LH.put1 (v := pvI (x + dd)) y6.1 hk2 hl2, y7, y8, y9⟩
  rcases sto1_get hk hv with ⟨-, rfl⟩ | ⟨-, h2, -⟩
  · exact hr
  · exact y4 _ _ h2
theorem s_iadd {Z : Act} {B : Bg} (hC : Cx Z B) {pc : Nat} {L : Lc} {w : Wd} {st : List PV} {x y : Int} (hd : decode (mB B.1) pc = .ok (.iadd, 1)) (hr : r32 (x + y)) (K : GX Z B (pc + 1) L (pvI (x + y) :: st) w) : GX Z B pc L (pvI y :: pvI x :: st) w := by
  obtain ⟨p, l, e, R, s, m, args, below, meth, c, D, cs, A, Q⟩ := Z
  obtain ⟨M, d, w0, al0, o, X, b⟩ := B
  obtain ⟨⟨hx, hb, hml, hown⟩, hts, hA, ⟨hlk, hst, hrt, hin, hex⟩, hMF, hR, hXs⟩ := hC
  intro al H locs la hy
  obtain ⟨y1, y2, y3, y4, y5, y6, y7, y8, y9⟩ := id hy
  have hrx : r32 x := all_hd (all_tl y3)
  have hry : r32 y := all_hd y3
  have KK : W p l e R s m args below meth c H locs (cn w w0) (sn w w0) Q (F0 m (pc + 1) la (vl al b (pvI (x + y)) :: st.map (vl al b))) := K al H locs la (hy.st (all_cons (hr) (all_tl (all_tl y3))))
  show W p l e R s m args below meth c H locs (cn w w0) (sn w w0) Q (F0 m pc la (.int (Int32.ofInt y) :: .int (Int32.ofInt x) :: st.map (vl al b)))
  refine lv_iadd hx hb hd ?_
  rw [i_add, w32_id hr]
  exact KK
theorem s_isub {Z : Act} {B : Bg} (hC : Cx Z B) {pc : Nat} {L : Lc} {w : Wd} {st : List PV} {x y : Int} (hd : decode (mB B.1) pc = .ok (.isub, 1)) (hr : r32 (x - y)) (K : GX Z B (pc + 1) L (pvI (x - y) :: st) w) : GX Z B pc L (pvI y :: pvI x :: st) w := by
  obtain ⟨p, l, e, R, s, m, args, below, meth, c, D, cs, A, Q⟩ := Z
  obtain ⟨M, d, w0, al0, o, X, b⟩ := B
  obtain ⟨⟨hx, hb, hml, hown⟩, hts, hA, ⟨hlk, hst, hrt, hin, hex⟩, hMF, hR, hXs⟩ := hC
  intro al H locs la hy
  obtain ⟨y1, y2, y3, y4, y5, y6, y7, y8, y9⟩ := id hy
  have hrx : r32 x := all_hd (all_tl y3)
  have hry : r32 y := all_hd y3
  have KK : W p l e R s m args below meth c H locs (cn w w0) (sn w w0) Q (F0 m (pc + 1) la (vl al b (pvI (x - y)) :: st.map (vl al b))) := K al H locs la (hy.st (all_cons (hr) (all_tl (all_tl y3))))
  show W p l e R s m args below meth c H locs (cn w w0) (sn w w0) Q (F0 m pc la (.int (Int32.ofInt y) :: .int (Int32.ofInt x) :: st.map (vl al b)))
  refine lv_isub hx hb hd ?_
  rw [i_sub, w32_id hr]
  exact KK
theorem s_imul {Z : Act} {B : Bg} (hC : Cx Z B) {pc : Nat} {L : Lc} {w : Wd} {st : List PV} {x y : Int} (hd : decode (mB B.1) pc = .ok (.imul, 1)) (hr : r32 (x * y)) (K : GX Z B (pc + 1) L (pvI (x * y) :: st) w) : GX Z B pc L (pvI y :: pvI x :: st) w := by
  obtain ⟨p, l, e, R, s, m, args, below, meth, c, D, cs, A, Q⟩ := Z
  obtain ⟨M, d, w0, al0, o, X, b⟩ := B
  obtain ⟨⟨hx, hb, hml, hown⟩, hts, hA, ⟨hlk, hst, hrt, hin, hex⟩, hMF, hR, hXs⟩ := hC
  intro al H locs la hy
  obtain ⟨y1, y2, y3, y4, y5, y6, y7, y8, y9⟩ := id hy
  have hrx : r32 x := all_hd (all_tl y3)
  have hry : r32 y := all_hd y3
  have KK : W p l e R s m args below meth c H locs (cn w w0) (sn w w0) Q (F0 m (pc + 1) la (vl al b (pvI (x * y)) :: st.map (vl al b))) := K al H locs la (hy.st (all_cons (hr) (all_tl (all_tl y3))))
  show W p l e R s m args below meth c H locs (cn w w0) (sn w w0) Q (F0 m pc la (.int (Int32.ofInt y) :: .int (Int32.ofInt x) :: st.map (vl al b)))
  refine lv_imul hx hb hd ?_
  rw [i_mul, w32_id hr]
  exact KK
theorem s_ladd {Z : Act} {B : Bg} (hC : Cx Z B) {pc : Nat} {L : Lc} {w : Wd} {st : List PV} {x y : Int} (hd : decode (mB B.1) pc = .ok (.ladd, 1)) (hr : r64 (x + y)) (K : GX Z B (pc + 1) L (pvL (x + y) :: st) w) : GX Z B pc L (pvL y :: pvL x :: st) w := by
  obtain ⟨p, l, e, R, s, m, args, below, meth, c, D, cs, A, Q⟩ := Z
  obtain ⟨M, d, w0, al0, o, X, b⟩ := B
  obtain ⟨⟨hx, hb, hml, hown⟩, hts, hA, ⟨hlk, hst, hrt, hin, hex⟩, hMF, hR, hXs⟩ := hC
  intro al H locs la hy
  obtain ⟨y1, y2, y3, y4, y5, y6, y7, y8, y9⟩ := id hy
  have hrx : r64 x := all_hd (all_tl y3)
  have hry : r64 y := all_hd y3
  have KK : W p l e R s m args below meth c H locs (cn w w0) (sn w w0) Q (F0 m (pc + 1) la (vl al b (pvL (x + y)) :: st.map (vl al b))) := K al H locs la (hy.st (all_cons (hr) (all_tl (all_tl y3))))
  show W p l e R s m args below meth c H locs (cn w w0) (sn w w0) Q (F0 m pc la (.long (Int64.ofInt y) :: .long (Int64.ofInt x) :: st.map (vl al b)))
  refine lv_ladd hx hb hd ?_
  rw [l_add, w64_id hr]
  exact KK
theorem s_lsub {Z : Act} {B : Bg} (hC : Cx Z B) {pc : Nat} {L : Lc} {w : Wd} {st : List PV} {x y : Int} (hd : decode (mB B.1) pc = .ok (.lsub, 1)) (hr : r64 (x - y)) (K : GX Z B (pc + 1) L (pvL (x - y) :: st) w) : GX Z B pc L (pvL y :: pvL x :: st) w := by
  obtain ⟨p, l, e, R, s, m, args, below, meth, c, D, cs, A, Q⟩ := Z
  obtain ⟨M, d, w0, al0, o, X, b⟩ := B
  obtain ⟨⟨hx, hb, hml, hown⟩, hts, hA, ⟨hlk, hst, hrt, hin, hex⟩, hMF, hR, hXs⟩ := hC
  intro al H locs la hy
  obtain ⟨y1, y2, y3, y4, y5, y6, y7, y8, y9⟩ := id hy
  have hrx : r64 x := all_hd (all_tl y3)
  have hry : r64 y := all_hd y3
  have KK : W p l e R s m args below meth c H locs (cn w w0) (sn w w0) Q (F0 m (pc + 1) la (vl al b (pvL (x - y)) :: st.map (vl al b))) := K al H locs la (hy.st (all_cons (hr) (all_tl (all_tl y3))))
  show W p l e R s m args below meth c H locs (cn w w0) (sn w w0) Q (F0 m pc la (.long (Int64.ofInt y) :: .long (Int64.ofInt x) :: st.map (vl al b)))
  refine lv_lsub hx hb hd ?_
  rw [l_sub, w64_id hr]
  exact KK
theorem s_lmul {Z : Act} {B : Bg} (hC : Cx Z B) {pc : Nat} {L : Lc} {w : Wd} {st : List PV} {x y : Int} (hd : decode (mB B.1) pc = .ok (.lmul, 1)) (hr : r64 (x * y)) (K : GX Z B (pc + 1) L (pvL (x * y) :: st) w) : GX Z B pc L (pvL y :: pvL x :: st) w := by
  obtain ⟨p, l, e, R, s, m, args, below, meth, c, D, cs, A, Q⟩ := Z
  obtain ⟨M, d, w0, al0, o, X, b⟩ := B
  obtain ⟨⟨hx, hb, hml, hown⟩, hts, hA, ⟨hlk, hst, hrt, hin, hex⟩, hMF, hR, hXs⟩ := hC
  intro al H locs la hy
  obtain ⟨y1, y2, y3, y4, y5, y6, y7, y8, y9⟩ := id hy
  have hrx : r64 x := all_hd (all_tl y3)
  have hry : r64 y := all_hd y3
  have KK : W p l e R s m args below meth c H locs (cn w w0) (sn w w0) Q (F0 m (pc + 1) la (vl al b (pvL (x * y)) :: st.map (vl al b))) := K al H locs la (hy.st (all_cons (hr) (all_tl (all_tl y3))))
  show W p l e R s m args below meth c H locs (cn w w0) (sn w w0) Q (F0 m pc la (.long (Int64.ofInt y) :: .long (Int64.ofInt x) :: st.map (vl al b)))
  refine lv_lmul hx hb hd ?_
  rw [l_mul, w64_id hr]
  exact KK
theorem s_idiv {Z : Act} {B : Bg} (hC : Cx Z B) {pc : Nat} {L : Lc} {w : Wd} {st : List PV} {x y : Int} (hd : decode (mB B.1) pc = .ok (.idiv, 1)) (hp : 0 < y) (K : GX Z B (pc + 1) L (pvI (x.tdiv y) :: st) w) : GX Z B pc L (pvI y :: pvI x :: st) w := by
  obtain ⟨p, l, e, R, s, m, args, below, meth, c, D, cs, A, Q⟩ := Z
  obtain ⟨M, d, w0, al0, o, X, b⟩ := B
  obtain ⟨⟨hx, hb, hml, hown⟩, hts, hA, ⟨hlk, hst, hrt, hin, hex⟩, hMF, hR, hXs⟩ := hC
  intro al H locs la hy
  obtain ⟨y1, y2, y3, y4, y5, y6, y7, y8, y9⟩ := id hy
  have hrx : r32 x := all_hd (all_tl y3)
  have hry : r32 y := all_hd y3
  have KK : W p l e R s m args below meth c H locs (cn w w0) (sn w w0) Q (F0 m (pc + 1) la (vl al b (pvI (x.tdiv y)) :: st.map (vl al b))) := K al H locs la (hy.st (all_cons (q_r32 hrx hp) (all_tl (all_tl y3))))
  show W p l e R s m args below meth c H locs (cn w w0) (sn w w0) Q (F0 m pc la (.int (Int32.ofInt y) :: .int (Int32.ofInt x) :: st.map (vl al b)))
  refine lv_idiv hx hb hd (i_ne0 hry (by omega)) ?_
  rw [i_div hrx hry, idiv, w32_id (q_r32 hrx hp)]
  exact KK
theorem s_irem {Z : Act} {B : Bg} (hC : Cx Z B) {pc : Nat} {L : Lc} {w : Wd} {st : List PV} {x y : Int} (hd : decode (mB B.1) pc = .ok (.irem, 1)) (hp : 0 < y) (K : GX Z B (pc + 1) L (pvI (x.tmod y) :: st) w) : GX Z B pc L (pvI y :: pvI x :: st) w := by
  obtain ⟨p, l, e, R, s, m, args, below, meth, c, D, cs, A, Q⟩ := Z
  obtain ⟨M, d, w0, al0, o, X, b⟩ := B
  obtain ⟨⟨hx, hb, hml, hown⟩, hts, hA, ⟨hlk, hst, hrt, hin, hex⟩, hMF, hR, hXs⟩ := hC
  intro al H locs la hy
  obtain ⟨y1, y2, y3, y4, y5, y6, y7, y8, y9⟩ := id hy
  have hrx : r32 x := all_hd (all_tl y3)
  have hry : r32 y := all_hd y3
  have KK : W p l e R s m args below meth c H locs (cn w w0) (sn w w0) Q (F0 m (pc + 1) la (vl al b (pvI (x.tmod y)) :: st.map (vl al b))) := K al H locs la (hy.st (all_cons (m_r32 hrx hry hp) (all_tl (all_tl y3))))
  show W p l e R s m args below meth c H locs (cn w w0) (sn w w0) Q (F0 m pc la (.int (Int32.ofInt y) :: .int (Int32.ofInt x) :: st.map (vl al b)))
  refine lv_irem hx hb hd (i_ne0 hry (by omega)) ?_
  rw [i_rem hrx hry]
  exact KK
theorem s_ldiv {Z : Act} {B : Bg} (hC : Cx Z B) {pc : Nat} {L : Lc} {w : Wd} {st : List PV} {x y : Int} (hd : decode (mB B.1) pc = .ok (.ldiv, 1)) (hp : y ≠ 0) (hr : r64 (x.tdiv y)) (K : GX Z B (pc + 1) L (pvL (x.tdiv y) :: st) w) : GX Z B pc L (pvL y :: pvL x :: st) w := by
  obtain ⟨p, l, e, R, s, m, args, below, meth, c, D, cs, A, Q⟩ := Z
  obtain ⟨M, d, w0, al0, o, X, b⟩ := B
  obtain ⟨⟨hx, hb, hml, hown⟩, hts, hA, ⟨hlk, hst, hrt, hin, hex⟩, hMF, hR, hXs⟩ := hC
  intro al H locs la hy
  obtain ⟨y1, y2, y3, y4, y5, y6, y7, y8, y9⟩ := id hy
  have hrx : r64 x := all_hd (all_tl y3)
  have hry : r64 y := all_hd y3
  have KK : W p l e R s m args below meth c H locs (cn w w0) (sn w w0) Q (F0 m (pc + 1) la (vl al b (pvL (x.tdiv y)) :: st.map (vl al b))) := K al H locs la (hy.st (all_cons (hr) (all_tl (all_tl y3))))
  show W p l e R s m args below meth c H locs (cn w w0) (sn w w0) Q (F0 m pc la (.long (Int64.ofInt y) :: .long (Int64.ofInt x) :: st.map (vl al b)))
  refine lv_ldiv hx hb hd (l_ne0 hry hp) ?_
  rw [l_div hrx hry, ldiv, w64_id hr]
  exact KK
theorem s_lrem {Z : Act} {B : Bg} (hC : Cx Z B) {pc : Nat} {L : Lc} {w : Wd} {st : List PV} {x y : Int} (hd : decode (mB B.1) pc = .ok (.lrem, 1)) (hp : 0 < y) (K : GX Z B (pc + 1) L (pvL (x.tmod y) :: st) w) : GX Z B pc L (pvL y :: pvL x :: st) w := by
  obtain ⟨p, l, e, R, s, m, args, below, meth, c, D, cs, A, Q⟩ := Z
  obtain ⟨M, d, w0, al0, o, X, b⟩ := B
  obtain ⟨⟨hx, hb, hml, hown⟩, hts, hA, ⟨hlk, hst, hrt, hin, hex⟩, hMF, hR, hXs⟩ := hC
  intro al H locs la hy
  obtain ⟨y1, y2, y3, y4, y5, y6, y7, y8, y9⟩ := id hy
  have hrx : r64 x := all_hd (all_tl y3)
  have hry : r64 y := all_hd y3
  have KK : W p l e R s m args below meth c H locs (cn w w0) (sn w w0) Q (F0 m (pc + 1) la (vl al b (pvL (x.tmod y)) :: st.map (vl al b))) := K al H locs la (hy.st (all_cons (m_r64 hrx hry hp) (all_tl (all_tl y3))))
  show W p l e R s m args below meth c H locs (cn w w0) (sn w w0) Q (F0 m pc la (.long (Int64.ofInt y) :: .long (Int64.ofInt x) :: st.map (vl al b)))
  refine lv_lrem hx hb hd (l_ne0 hry (by omega)) ?_
  rw [l_rem hrx hry]
  exact KK
theorem s_iand {Z : Act} {B : Bg} (hC : Cx Z B) {pc : Nat} {L : Lc} {w : Wd} {st : List PV} {x y : Int} (hd : decode (mB B.1) pc = .ok (.iand, 1)) (K : GX Z B (pc + 1) L (pvI (iand x y) :: st) w) : GX Z B pc L (pvI y :: pvI x :: st) w := by
  obtain ⟨p, l, e, R, s, m, args, below, meth, c, D, cs, A, Q⟩ := Z
  obtain ⟨M, d, w0, al0, o, X, b⟩ := B
  obtain ⟨⟨hx, hb, hml, hown⟩, hts, hA, ⟨hlk, hst, hrt, hin, hex⟩, hMF, hR, hXs⟩ := hC
  intro al H locs la hy
  obtain ⟨y1, y2, y3, y4, y5, y6, y7, y8, y9⟩ := id hy
  have hrx : r32 x := all_hd (all_tl y3)
  have hry : r32 y := all_hd y3
  have KK : W p l e R s m args below meth c H locs (cn w w0) (sn w w0) Q (F0 m (pc + 1) la (vl al b (pvI (iand x y)) :: st.map (vl al b))) := K al H locs la (hy.st (all_cons (r32_toInt _) (all_tl (all_tl y3))))
  show W p l e R s m args below meth c H locs (cn w w0) (sn w w0) Q (F0 m pc la (.int (Int32.ofInt y) :: .int (Int32.ofInt x) :: st.map (vl al b)))
  refine lv_iand hx hb hd ?_
  rw [of_iand]
  exact KK
theorem s_ior {Z : Act} {B : Bg} (hC : Cx Z B) {pc : Nat} {L : Lc} {w : Wd} {st : List PV} {x y : Int} (hd : decode (mB B.1) pc = .ok (.ior, 1)) (K : GX Z B (pc + 1) L (pvI (ior x y) :: st) w) : GX Z B pc L (pvI y :: pvI x :: st) w := by
  obtain ⟨p, l, e, R, s, m, args, below, meth, c, D, cs, A, Q⟩ := Z
  obtain ⟨M, d, w0, al0, o, X, b⟩ := B
  obtain ⟨⟨hx, hb, hml, hown⟩, hts, hA, ⟨hlk, hst, hrt, hin, hex⟩, hMF, hR, hXs⟩ := hC
  intro al H locs la hy
  obtain ⟨y1, y2, y3, y4, y5, y6, y7, y8, y9⟩ := id hy
  have hrx : r32 x := all_hd (all_tl y3)
  have hry : r32 y := all_hd y3
  have KK : W p l e R s m args below meth c H locs (cn w w0) (sn w w0) Q (F0 m (pc + 1) la (vl al b (pvI (ior x y)) :: st.map (vl al b))) := K al H locs la (hy.st (all_cons (r32_toInt _) (all_tl (all_tl y3))))
  show W p l e R s m args below meth c H locs (cn w w0) (sn w w0) Q (F0 m pc la (.int (Int32.ofInt y) :: .int (Int32.ofInt x) :: st.map (vl al b)))
  refine lv_ior hx hb hd ?_
  rw [of_ior]
  exact KK
theorem s_ishl {Z : Act} {B : Bg} (hC : Cx Z B) {pc : Nat} {L : Lc} {w : Wd} {st : List PV} {x y : Int} (hd : decode (mB B.1) pc = .ok (.ishl, 1)) (K : GX Z B (pc + 1) L (pvI (ishl x y) :: st) w) : GX Z B pc L (pvI y :: pvI x :: st) w := by
  obtain ⟨p, l, e, R, s, m, args, below, meth, c, D, cs, A, Q⟩ := Z
  obtain ⟨M, d, w0, al0, o, X, b⟩ := B
  obtain ⟨⟨hx, hb, hml, hown⟩, hts, hA, ⟨hlk, hst, hrt, hin, hex⟩, hMF, hR, hXs⟩ := hC
  intro al H locs la hy
  obtain ⟨y1, y2, y3, y4, y5, y6, y7, y8, y9⟩ := id hy
  have hrx : r32 x := all_hd (all_tl y3)
  have hry : r32 y := all_hd y3
  have KK : W p l e R s m args below meth c H locs (cn w w0) (sn w w0) Q (F0 m (pc + 1) la (vl al b (pvI (ishl x y)) :: st.map (vl al b))) := K al H locs la (hy.st (all_cons (r32_toInt _) (all_tl (all_tl y3))))
  show W p l e R s m args below meth c H locs (cn w w0) (sn w w0) Q (F0 m pc la (.int (Int32.ofInt y) :: .int (Int32.ofInt x) :: st.map (vl al b)))
  refine lv_ishl hx hb hd ?_
  rw [of_ishl]
  exact KK
theorem s_ishr {Z : Act} {B : Bg} (hC : Cx Z B) {pc : Nat} {L : Lc} {w : Wd} {st : List PV} {x y : Int} (hd : decode (mB B.1) pc = .ok (.ishr, 1)) (K : GX Z B (pc + 1) L (pvI (ishr x y) :: st) w) : GX Z B pc L (pvI y :: pvI x :: st) w := by
  obtain ⟨p, l, e, R, s, m, args, below, meth, c, D, cs, A, Q⟩ := Z
  obtain ⟨M, d, w0, al0, o, X, b⟩ := B
  obtain ⟨⟨hx, hb, hml, hown⟩, hts, hA, ⟨hlk, hst, hrt, hin, hex⟩, hMF, hR, hXs⟩ := hC
  intro al H locs la hy
  obtain ⟨y1, y2, y3, y4, y5, y6, y7, y8, y9⟩ := id hy
  have hrx : r32 x := all_hd (all_tl y3)
  have hry : r32 y := all_hd y3
  have KK : W p l e R s m args below meth c H locs (cn w w0) (sn w w0) Q (F0 m (pc + 1) la (vl al b (pvI (ishr x y)) :: st.map (vl al b))) := K al H locs la (hy.st (all_cons (r32_toInt _) (all_tl (all_tl y3))))
  show W p l e R s m args below meth c H locs (cn w w0) (sn w w0) Q (F0 m pc la (.int (Int32.ofInt y) :: .int (Int32.ofInt x) :: st.map (vl al b)))
  refine lv_ishr hx hb hd ?_
  rw [of_ishr]
  exact KK
theorem s_iushr {Z : Act} {B : Bg} (hC : Cx Z B) {pc : Nat} {L : Lc} {w : Wd} {st : List PV} {x y : Int} (hd : decode (mB B.1) pc = .ok (.iushr, 1)) (K : GX Z B (pc + 1) L (pvI (iushr x y) :: st) w) : GX Z B pc L (pvI y :: pvI x :: st) w := by
  obtain ⟨p, l, e, R, s, m, args, below, meth, c, D, cs, A, Q⟩ := Z
  obtain ⟨M, d, w0, al0, o, X, b⟩ := B
  obtain ⟨⟨hx, hb, hml, hown⟩, hts, hA, ⟨hlk, hst, hrt, hin, hex⟩, hMF, hR, hXs⟩ := hC
  intro al H locs la hy
  obtain ⟨y1, y2, y3, y4, y5, y6, y7, y8, y9⟩ := id hy
  exact lv_iushr (v := Int32.ofInt (iushr x y)) hx hb hd (by show _ = Int32.ofInt (iushr x y); unfold iushr; rw [of_toInt32]; rfl) (K al H locs la (hy.st (all_cons (r32_toInt _) (all_tl (all_tl y3)))))
theorem s_lneg {Z : Act} {B : Bg} (hC : Cx Z B) {pc : Nat} {L : Lc} {w : Wd} {st : List PV} {x : Int} (hd : decode (mB B.1) pc = .ok (.lneg, 1)) (hr : r64 (-x)) (K : GX Z B (pc + 1) L (pvL (-x) :: st) w) : GX Z B pc L (pvL x :: st) w := by
  obtain ⟨p, l, e, R, s, m, args, below, meth, c, D, cs, A, Q⟩ := Z
  obtain ⟨M, d, w0, al0, o, X, b⟩ := B
  obtain ⟨⟨hx, hb, hml, hown⟩, hts, hA, ⟨hlk, hst, hrt, hin, hex⟩, hMF, hR, hXs⟩ := hC
  intro al H locs la hy
  obtain ⟨y1, y2, y3, y4, y5, y6, y7, y8, y9⟩ := id hy
  have KK : W p l e R s m args below meth c H locs (cn w w0) (sn w w0) Q (F0 m (pc + 1) la (vl al b (pvL (-x)) :: st.map (vl al b))) := K al H locs la (hy.st (all_cons hr (all_tl y3)))
  show W p l e R s m args below meth c H locs (cn w w0) (sn w w0) Q (F0 m pc la (.long (Int64.ofInt x) :: st.map (vl al b)))
  refine lv_lneg hx hb hd ?_
  rw [l_neg, w64_id hr]
  exact KK
theorem s_lcmp {Z : Act} {B : Bg} (hC : Cx Z B) {pc : Nat} {L : Lc} {w : Wd} {st : List PV} {x y : Int} (hd : decode (mB B.1) pc = .ok (.lcmp, 1)) (K : GX Z B (pc + 1) L (pvI (lcm x y) :: st) w) : GX Z B pc L (pvL y :: pvL x :: st) w := by
  obtain ⟨p, l, e, R, s, m, args, below, meth, c, D, cs, A, Q⟩ := Z
  obtain ⟨M, d, w0, al0, o, X, b⟩ := B
  obtain ⟨⟨hx, hb, hml, hown⟩, hts, hA, ⟨hlk, hst, hrt, hin, hex⟩, hMF, hR, hXs⟩ := hC
  intro al H locs la hy
  obtain ⟨y1, y2, y3, y4, y5, y6, y7, y8, y9⟩ := id hy
  have hrx : r64 x := all_hd (all_tl y3)
  have hry : r64 y := all_hd y3
  have KK : W p l e R s m args below meth c H locs (cn w w0) (sn w w0) Q (F0 m (pc + 1) la (vl al b (pvI (lcm x y)) :: st.map (vl al b))) := K al H locs la (hy.st (all_cons (r32_lcm x y) (all_tl (all_tl y3))))
  show W p l e R s m args below meth c H locs (cn w w0) (sn w w0) Q (F0 m pc la (.long (Int64.ofInt y) :: .long (Int64.ofInt x) :: st.map (vl al b)))
  refine W.lcmp hx hb hd ?_
  rw [lg_lcm hrx hry]
  exact KK
theorem s_i2l {Z : Act} {B : Bg} (hC : Cx Z B) {pc : Nat} {L : Lc} {w : Wd} {st : List PV} {x : Int} (hd : decode (mB B.1) pc = .ok (.i2l, 1)) (K : GX Z B (pc + 1) L (pvL x :: st) w) : GX Z B pc L (pvI x :: st) w := by
  obtain ⟨p, l, e, R, s, m, args, below, meth, c, D, cs, A, Q⟩ := Z
  obtain ⟨M, d, w0, al0, o, X, b⟩ := B
  obtain ⟨⟨hx, hb, hml, hown⟩, hts, hA, ⟨hlk, hst, hrt, hin, hex⟩, hMF, hR, hXs⟩ := hC
  intro al H locs la hy
  obtain ⟨y1, y2, y3, y4, y5, y6, y7, y8, y9⟩ := id hy
  have hrx : r32 x := all_hd y3
  exact lv_i2l (v := Int64.ofInt x) hx hb hd (i_l hrx) (K al H locs la (hy.st (all_cons (show r64 x by unfold r32 at hrx; unfold r64; omega) (all_tl y3))))
theorem s_l2i {Z : Act} {B : Bg} (hC : Cx Z B) {pc : Nat} {L : Lc} {w : Wd} {st : List PV} {x : Int} (hd : decode (mB B.1) pc = .ok (.l2i, 1)) (hr : r32 x) (K : GX Z B (pc + 1) L (pvI x :: st) w) : GX Z B pc L (pvL x :: st) w := by
  obtain ⟨p, l, e, R, s, m, args, below, meth, c, D, cs, A, Q⟩ := Z
  obtain ⟨M, d, w0, al0, o, X, b⟩ := B
  obtain ⟨⟨hx, hb, hml, hown⟩, hts, hA, ⟨hlk, hst, hrt, hin, hex⟩, hMF, hR, hXs⟩ := hC
  intro al H locs la hy
  obtain ⟨y1, y2, y3, y4, y5, y6, y7, y8, y9⟩ := id hy
  exact lv_l2i (v := Int32.ofInt x) hx hb hd (l_i hr) (K al H locs la (hy.st (all_cons hr (all_tl y3))))
theorem s_dup {Z : Act} {B : Bg} (hC : Cx Z B) {pc : Nat} {L : Lc} {w : Wd} {st : List PV} {v : PV} (hd : decode (mB B.1) pc = .ok (.dup, 1)) (hv : v.1 ≠ 1) (K : GX Z B (pc + 1) L (v :: v :: st) w) : GX Z B pc L (v :: st) w := by
  obtain ⟨p, l, e, R, s, m, args, below, meth, c, D, cs, A, Q⟩ := Z
  obtain ⟨M, d, w0, al0, o, X, b⟩ := B
  obtain ⟨⟨hx, hb, hml, hown⟩, hts, hA, ⟨hlk, hst, hrt, hin, hex⟩, hMF, hR, hXs⟩ := hC
  intro al H locs la hy
  obtain ⟨y1, y2, y3, y4, y5, y6, y7, y8, y9⟩ := id hy
  exact lv_dup hx hb hd (by rw [vl_cat, catV, if_neg hv]) (K al H locs la (hy.st (all_cons (all_hd y3) y3)))
theorem s_dup2 {Z : Act} {B : Bg} (hC : Cx Z B) {pc : Nat} {L : Lc} {w : Wd} {st : List PV} {v u : PV} (hd : decode (mB B.1) pc = .ok (.dup2, 1)) (hv : v.1 ≠ 1) (hu : u.1 ≠ 1) (K : GX Z B (pc + 1) L (v :: u :: v :: u :: st) w) : GX Z B pc L (v :: u :: st) w := by
  obtain ⟨p, l, e, R, s, m, args, below, meth, c, D, cs, A, Q⟩ := Z
  obtain ⟨M, d, w0, al0, o, X, b⟩ := B
  obtain ⟨⟨hx, hb, hml, hown⟩, hts, hA, ⟨hlk, hst, hrt, hin, hex⟩, hMF, hR, hXs⟩ := hC
  intro al H locs la hy
  obtain ⟨y1, y2, y3, y4, y5, y6, y7, y8, y9⟩ := id hy
  exact lv_dup2_11 hx hb hd (by rw [vl_cat, catV, if_neg hv]) (by rw [vl_cat, catV, if_neg hu]) (K al H locs la (hy.st (all_cons (all_hd y3) (all_cons (all_hd (all_tl y3)) y3))))
theorem s_pop {Z : Act} {B : Bg} (hC : Cx Z B) {pc : Nat} {L : Lc} {w : Wd} {st : List PV} {v : PV} (hd : decode (mB B.1) pc = .ok (.pop, 1)) (hv : v.1 ≠ 1) (K : GX Z B (pc + 1) L (st) w) : GX Z B pc L (v :: st) w := by
  obtain ⟨p, l, e, R, s, m, args, below, meth, c, D, cs, A, Q⟩ := Z
  obtain ⟨M, d, w0, al0, o, X, b⟩ := B
  obtain ⟨⟨hx, hb, hml, hown⟩, hts, hA, ⟨hlk, hst, hrt, hin, hex⟩, hMF, hR, hXs⟩ := hC
  intro al H locs la hy
  obtain ⟨y1, y2, y3, y4, y5, y6, y7, y8, y9⟩ := id hy
  exact lv_pop hx hb hd (by rw [vl_cat, catV, if_neg hv]) (K al H locs la (hy.st (all_tl y3)))
theorem s_if {Z : Act} {B : Bg} (hC : Cx Z B) {pc : Nat} {L : Lc} {w : Wd} {st : List PV} {o : Jvm.ClassFile.Cond} {off x : Int} {t : Nat} (hd : decode (mB B.1) pc = .ok (.ifCond o off, 3)) (ht : (pc : Int) + off = t) (K1 : cnd o x 0 → GX Z B t L (st) w) (K2 : ¬ cnd o x 0 → GX Z B (pc + 3) L (st) w) : GX Z B pc L (pvI x :: st) w := by
  obtain ⟨p, l, e, R, s, m, args, below, meth, c, D, cs, A, Q⟩ := Z
  obtain ⟨M, d, w0, al0, o, X, b⟩ := B
  obtain ⟨⟨hx, hb, hml, hown⟩, hts, hA, ⟨hlk, hst, hrt, hin, hex⟩, hMF, hR, hXs⟩ := hC
  intro al H locs la hy
  obtain ⟨y1, y2, y3, y4, y5, y6, y7, y8, y9⟩ := id hy
  rename_i o9
  have hrx : r32 x := all_hd y3
  have hz : r32 0 := r32_c rfl
  have h0 : (0 : Int32) = Int32.ofInt 0 := rfl
  have k1 := fun h => K1 h al H locs la (hy.st (all_tl y3))
  have k2 := fun h => K2 h al H locs la (hy.st (all_tl y3))
  cases o9 with
  | eq => exact lv_if_eq hx hb hd ht (fun h => k1 (by rw [h0] at h; exact (i_eq hrx hz).mp h)) (fun h => k2 (fun g => h (by rw [h0]; exact (i_eq hrx hz).mpr g)))
  | ne => exact lv_if_ne hx hb hd ht (fun h => k1 (by rw [h0] at h; exact fun z => h ((i_eq hrx hz).mpr z))) (fun h => k2 (fun g => g ((i_eq hrx hz).mp (by rw [h0] at h; exact h))))
  | lt => exact lv_if_lt hx hb hd ht (fun h => k1 (by rw [h0] at h; exact (i_lt hrx hz).mp h)) (fun h => k2 (fun g => h (by rw [h0]; exact (i_lt hrx hz).mpr g)))
  | ge => exact lv_if_ge hx hb hd ht (fun h => k1 (by rw [h0] at h; exact (i_le hz hrx).mp h)) (fun h => k2 (fun g => h (by rw [h0]; exact (i_le hz hrx).mpr g)))
  | gt => exact lv_if_gt hx hb hd ht (fun h => k1 (by rw [h0] at h; exact (i_lt hz hrx).mp h)) (fun h => k2 (fun g => h (by rw [h0]; exact (i_lt hz hrx).mpr g)))
  | le => exact lv_if_le hx hb hd ht (fun h => k1 (by rw [h0] at h; exact (i_le hrx hz).mp h)) (fun h => k2 (fun g => h (by rw [h0]; exact (i_le hrx hz).mpr g)))
theorem s_icmp {Z : Act} {B : Bg} (hC : Cx Z B) {pc : Nat} {L : Lc} {w : Wd} {st : List PV} {o : Jvm.ClassFile.Cond} {off x y : Int} {t : Nat} (hd : decode (mB B.1) pc = .ok (.if_icmp o off, 3)) (ht : (pc : Int) + off = t) (K1 : cnd o x y → GX Z B t L (st) w) (K2 : ¬ cnd o x y → GX Z B (pc + 3) L (st) w) : GX Z B pc L (pvI y :: pvI x :: st) w := by
  obtain ⟨p, l, e, R, s, m, args, below, meth, c, D, cs, A, Q⟩ := Z
  obtain ⟨M, d, w0, al0, o, X, b⟩ := B
  obtain ⟨⟨hx, hb, hml, hown⟩, hts, hA, ⟨hlk, hst, hrt, hin, hex⟩, hMF, hR, hXs⟩ := hC
  intro al H locs la hy
  obtain ⟨y1, y2, y3, y4, y5, y6, y7, y8, y9⟩ := id hy
  rename_i o9
  have hrx : r32 x := all_hd (all_tl y3)
  have hz : r32 y := all_hd y3
  have k1 := fun h => K1 h al H locs la (hy.st (all_tl (all_tl y3)))
  have k2 := fun h => K2 h al H locs la (hy.st (all_tl (all_tl y3)))
  cases o9 with
  | eq => exact lv_icmp_eq hx hb hd ht (fun h => k1 ((i_eq hrx hz).mp h)) (fun h => k2 (fun g => h ((i_eq hrx hz).mpr g)))
  | ne => exact lv_icmp_ne hx hb hd ht (fun h => k1 (fun z => h ((i_eq hrx hz).mpr z))) (fun h => k2 (fun g => g ((i_eq hrx hz).mp h)))
  | lt => exact lv_icmp_lt hx hb hd ht (fun h => k1 ((i_lt hrx hz).mp h)) (fun h => k2 (fun g => h ((i_lt hrx hz).mpr g)))
  | ge => exact lv_icmp_ge hx hb hd ht (fun h => k1 ((i_le hz hrx).mp h)) (fun h => k2 (fun g => h ((i_le hz hrx).mpr g)))
  | gt => exact lv_icmp_gt hx hb hd ht (fun h => k1 ((i_lt hz hrx).mp h)) (fun h => k2 (fun g => h ((i_lt hz hrx).mpr g)))
  | le => exact lv_icmp_le hx hb hd ht (fun h => k1 ((i_le hrx hz).mp h)) (fun h => k2 (fun g => h ((i_le hrx hz).mpr g)))
theorem s_goto {Z : Act} {B : Bg} (hC : Cx Z B) {pc : Nat} {L : Lc} {w : Wd} {st : List PV} {off : Int} {t : Nat} (hd : decode (mB B.1) pc = .ok (.goto off, 3)) (ht : (pc : Int) + off = t) (K : GX Z B t L (st) w) : GX Z B pc L (st) w := by
  obtain ⟨p, l, e, R, s, m, args, below, meth, c, D, cs, A, Q⟩ := Z
  obtain ⟨M, d, w0, al0, o, X, b⟩ := B
  obtain ⟨⟨hx, hb, hml, hown⟩, hts, hA, ⟨hlk, hst, hrt, hin, hex⟩, hMF, hR, hXs⟩ := hC
  intro al H locs la hy
  obtain ⟨y1, y2, y3, y4, y5, y6, y7, y8, y9⟩ := id hy
  exact lv_goto hx hb hd ht (K al H locs la hy)
theorem s_ifnn {Z : Act} {B : Bg} (hC : Cx Z B) {pc : Nat} {L : Lc} {w : Wd} {st : List PV} {off x : Int} {t : Nat} (hd : decode (mB B.1) pc = .ok (.ifnonnull off, 3)) (ht : (pc : Int) + off = t) (K1 : 0 ≤ x → GX Z B t L (st) w) (K2 : ¬ 0 ≤ x → GX Z B (pc + 3) L (st) w) : GX Z B pc L (pvF x :: st) w := by
  obtain ⟨p, l, e, R, s, m, args, below, meth, c, D, cs, A, Q⟩ := Z
  obtain ⟨M, d, w0, al0, o, X, b⟩ := B
  obtain ⟨⟨hx, hb, hml, hown⟩, hts, hA, ⟨hlk, hst, hrt, hin, hex⟩, hMF, hR, hXs⟩ := hC
  intro al H locs la hy
  obtain ⟨y1, y2, y3, y4, y5, y6, y7, y8, y9⟩ := id hy
  by_cases h : 0 ≤ x
  · have he : vl al b (pvF x) = .ref (al x.toNat) := by show va_rf (rfo al x) = _; unfold rfo; rw [if_neg (by omega)]; rfl
    show W p l e R s m args below meth c H locs (cn w w0) (sn w w0) Q (F0 m pc la (vl al b (pvF x) :: st.map (vl al b)))
    rw [he]
    exact lv_ifnonnull hx hb hd ht (K1 h al H locs la (hy.st (all_tl y3)))
  · have he : vl al b (pvF x) = .null := by show va_rf (rfo al x) = _; unfold rfo; rw [if_pos (by omega)]; rfl
    show W p l e R s m args below meth c H locs (cn w w0) (sn w w0) Q (F0 m pc la (vl al b (pvF x) :: st.map (vl al b)))
    rw [he]
    exact lv_ifnonnullN hx hb hd (K2 h al H locs la (hy.st (all_tl y3)))
theorem s_table {Z : Act} {B : Bg} (hC : Cx Z B) {pc : Nat} {L : Lc} {w : Wd} {st : List PV} {dflt lo hi off x : Int} {offs : Array Int} {len t : Nat} (hd : decode (mB B.1) pc = .ok (.tableswitch dflt lo hi offs, len)) (h : ((x < lo ∨ hi < x) ∧ off = dflt) ∨ (¬ x < lo ∧ ¬ hi < x ∧ offs[(x - lo).toNat]? = some off)) (ht : (pc : Int) + off = t) (K : GX Z B t L (st) w) : GX Z B pc L (pvI x :: st) w := by
  obtain ⟨p, l, e, R, s, m, args, below, meth, c, D, cs, A, Q⟩ := Z
  obtain ⟨M, d, w0, al0, o, X, b⟩ := B
  obtain ⟨⟨hx, hb, hml, hown⟩, hts, hA, ⟨hlk, hst, hrt, hin, hex⟩, hMF, hR, hXs⟩ := hC
  intro al H locs la hy
  obtain ⟨y1, y2, y3, y4, y5, y6, y7, y8, y9⟩ := id hy
  have hrx : r32 x := all_hd y3
  have k1 := K al H locs la (hy.st (all_tl y3))
  rcases h with ⟨h, rfl⟩ | ⟨h1, h2, h3⟩
  · exact lv_tableOut (x := Int32.ofInt x) hx hb hd (by rw [toInt32_r hrx]; exact h) ht k1
  · exact lv_tableIn (x := Int32.ofInt x) hx hb hd (by rw [toInt32_r hrx]; exact h1) (by rw [toInt32_r hrx]; exact h2) (by rw [toInt32_r hrx]; exact h3) ht k1

/-! ===== more library calls; ends; throws ===== -/
theorem s_imin {Z : Act} {B : Bg} (hC : Cx Z B) {pc idx : Nat} {L : Lc} {w : Wd} {st : List PV} {x y : Int} (hd : decode (mB B.1) pc = .ok (.invokestatic idx, 3)) (hl : Cond.methodLink (zOwn (mC B.1)) idx Lib.Math.min.name ∈ lw_good) (hs : catS st ≤ 20) (K : GX Z B (pc + 3) L (pvI (min x y) :: st) w) : GX Z B pc L (pvI y :: pvI x :: st) w := by
  obtain ⟨p, l, e, R, s, m, args, below, meth, c, D, cs, A, Q⟩ := Z
  obtain ⟨M, d, w0, al0, o, X, b⟩ := B
  obtain ⟨⟨hx, hb, hml, hown⟩, hts, hA, ⟨hlk, hst, hrt, hin, hex⟩, hMF, ⟨hR1, hR2, hR3, hR4⟩, hXs⟩ := hC
  intro al H locs la hy
  obtain ⟨y1, y2, y3, y4, y5, y6, y7, y8, y9⟩ := id hy
  have hrx : r32 x := all_hd (all_tl y3)
  have hry : r32 y := all_hd y3
  have hrm : r32 (min x y) := by unfold r32 at hrx hry ⊢; omega
  have KK : W p l e R s m args below meth c H locs (cn w w0) (sn w w0) Q (F0 m (pc + 3) la (.int (Int32.ofInt (min x y)) :: st.map (vl al b))) := K al H locs la (hy.st (all_cons hrm (all_tl (all_tl y3))))
  refine va_mmin (x := Int32.ofInt x) (y := Int32.ofInt y) hx hb (hml.trans y6.2.1.symm) hown (hts _ hl) (hts _ (by decide +kernel)) (hts _ (by decide +kernel)) (hts _ (by decide +kernel)) (by omega) (Nat.le_trans (bump al b hs) (by omega)) (Nat.le_trans (cn_le y1.2) hR3) (Nat.le_trans (sn_le y1.2) hR4) hd ?_
  by_cases h : y < x
  · rw [if_pos ((i_lt hry hrx).mpr h)]
    rw [show min x y = y by omega] at KK
    exact KK
  · rw [if_neg (fun z => h ((i_lt hry hrx).mp z))]
    rw [show min x y = x by omega] at KK
    exact KK
theorem s_lmax {Z : Act} {B : Bg} (hC : Cx Z B) {pc idx : Nat} {L : Lc} {w : Wd} {st : List PV} {x y : Int} (hd : decode (mB B.1) pc = .ok (.invokestatic idx, 3)) (hl : Cond.methodLink (zOwn (mC B.1)) idx Lib.MathLoose.max_long.x ∈ lw_good) (hs : catS st ≤ 20) (K : GX Z B (pc + 3) L (pvL (max x y) :: st) w) : GX Z B pc L (pvL y :: pvL x :: st) w := by
  obtain ⟨p, l, e, R, s, m, args, below, meth, c, D, cs, A, Q⟩ := Z
  obtain ⟨M, d, w0, al0, o, X, b⟩ := B
  obtain ⟨⟨hx, hb, hml, hown⟩, hts, hA, ⟨hlk, hst, hrt, hin, hex⟩, hMF, ⟨hR1, hR2, hR3, hR4⟩, hXs⟩ := hC
  intro al H locs la hy
  obtain ⟨y1, y2, y3, y4, y5, y6, y7, y8, y9⟩ := id hy
  have hrx : r64 x := all_hd (all_tl y3)
  have hry : r64 y := all_hd y3
  have hrm : r64 (max x y) := by unfold r64 at hrx hry ⊢; omega
  have KK : W p l e R s m args below meth c H locs (cn w w0) (sn w w0) Q (F0 m (pc + 3) la (.long (Int64.ofInt (max x y)) :: st.map (vl al b))) := K al H locs la (hy.st (all_cons hrm (all_tl (all_tl y3))))
  refine va_mmax_long (x := Int64.ofInt x) (y := Int64.ofInt y) hx hb (hml.trans y6.2.1.symm) hown (hts _ hl) (hts _ (by decide +kernel)) (hts _ (by decide +kernel)) (hts _ (by decide +kernel)) (by omega) (Nat.le_trans (bump al b hs) (by omega)) (Nat.le_trans (cn_le y1.2) hR3) (Nat.le_trans (sn_le y1.2) hR4) hd ?_
  by_cases h : y < x
  · rw [if_pos ((l_lt hry hrx).mpr h)]
    rw [show max x y = x by omega] at KK
    exact KK
  · rw [if_neg (fun z => h ((l_lt hry hrx).mp z))]
    rw [show max x y = y by omega] at KK
    exact KK
theorem s_lmin {Z : Act} {B : Bg} (hC : Cx Z B) {pc idx : Nat} {L : Lc} {w : Wd} {st : List PV} {x y : Int} (hd : decode (mB B.1) pc = .ok (.invokestatic idx, 3)) (hl : Cond.methodLink (zOwn (mC B.1)) idx Lib.MathLoose.min_long.x ∈ lw_good) (hs : catS st ≤ 20) (K : GX Z B (pc + 3) L (pvL (min x y) :: st) w) : GX Z B pc L (pvL y :: pvL x :: st) w := by
  obtain ⟨p, l, e, R, s, m, args, below, meth, c, D, cs, A, Q⟩ := Z
  obtain ⟨M, d, w0, al0, o, X, b⟩ := B
  obtain ⟨⟨hx, hb, hml, hown⟩, hts, hA, ⟨hlk, hst, hrt, hin, hex⟩, hMF, ⟨hR1, hR2, hR3, hR4⟩, hXs⟩ := hC
  intro al H locs la hy
  obtain ⟨y1, y2, y3, y4, y5, y6, y7, y8, y9⟩ := id hy
  have hrx : r64 x := all_hd (all_tl y3)
  have hry : r64 y := all_hd y3
  have hrm : r64 (min x y) := by unfold r64 at hrx hry ⊢; omega
  have KK : W p l e R s m args below meth c H locs (cn w w0) (sn w w0) Q (F0 m (pc + 3) la (.long (Int64.ofInt (min x y)) :: st.map (vl al b))) := K al H locs la (hy.st (all_cons hrm (all_tl (all_tl y3))))
  refine va_mmin_long (x := Int64.ofInt x) (y := Int64.ofInt y) hx hb (hml.trans y6.2.1.symm) hown (hts _ hl) (hts _ (by decide +kernel)) (hts _ (by decide +kernel)) (hts _ (by decide +kernel)) (by omega) (Nat.le_trans (bump al b hs) (by omega)) (Nat.le_trans (cn_le y1.2) hR3) (Nat.le_trans (sn_le y1.2) hR4) hd ?_
  by_cases h : y < x
  · rw [if_pos ((l_lt hry hrx).mpr h)]
    rw [show min x y = y by omega] at KK
    exact KK
  · rw [if_neg (fun z => h ((l_lt hry hrx).mp z))]
    rw [show min x y = x by omega] at KK
    exact KK
theorem s_labs {Z : Act} {B : Bg} (hC : Cx Z B) {pc : Nat} {L : Lc} {w : Wd} {st : List PV} {idx : Nat} {x : Int} (hd : decode (mB B.1) pc = .ok (.invokestatic idx, 3)) (hl : Cond.methodLink (zOwn (mC B.1)) idx Lib.MathLoose.abs_long.x ∈ lw_good) (hs : catS st ≤ 20) (hr : r64 (-x)) (K : GX Z B (pc + 3) L (pvL (max x (-x)) :: st) w) : GX Z B pc L (pvL x :: st) w := by
  obtain ⟨p, l, e, R, s, m, args, below, meth, c, D, cs, A, Q⟩ := Z
  obtain ⟨M, d, w0, al0, o, X, b⟩ := B
  obtain ⟨⟨hx, hb, hml, hown⟩, hts, hA, ⟨hlk, hst, hrt, hin, hex⟩, hMF, ⟨hR1, hR2, hR3, hR4⟩, hXs⟩ := hC
  intro al H locs la hy
  obtain ⟨y1, y2, y3, y4, y5, y6, y7, y8, y9⟩ := id hy
  have hrx : r64 x := all_hd y3
  have hrm : r64 (max x (-x)) := by unfold r64 at hrx hr ⊢; omega
  have KK : W p l e R s m args below meth c H locs (cn w w0) (sn w w0) Q (F0 m (pc + 3) la (.long (Int64.ofInt (max x (-x))) :: st.map (vl al b))) := K al H locs la (hy.st (all_cons hrm (all_tl y3)))
  refine va_mabs_long (x := Int64.ofInt x) hx hb (hml.trans y6.2.1.symm) hown (hts _ hl) (hts _ (by decide +kernel)) (hts _ (by decide +kernel)) (hts _ (by decide +kernel)) (by omega) (Nat.le_trans (bump al b hs) (by omega)) (Nat.le_trans (cn_le y1.2) hR3) (Nat.le_trans (sn_le y1.2) hR4) hd ?_
  have h0 : (0 : Int64) = Int64.ofInt 0 := rfl
  rw [h0, l_neg, w64_id hr]
  by_cases h : 0 < x
  · rw [if_pos ((l_lt (r64_c rfl) hrx).mpr h)]
    rw [show max x (-x) = x by omega] at KK
    exact KK
  · rw [if_neg (fun z => h ((l_lt (r64_c rfl) hrx).mp z))]
    rw [show max x (-x) = -x by omega] at KK
    exact KK
theorem s_copy {Z : Act} {B : Bg} (hC : Cx Z B) {pc : Nat} {L : Lc} {w : Wd} {st : List PV} {idx L1 P1 L0 P0 : Nat} {n dp sp : Int} (hd : decode (mB B.1) pc = .ok (.invokestatic idx, 3)) (hl : Cond.methodLink (zOwn (mC B.1)) idx arraycopyName ∈ lw_good) (hs : catS st ≤ 20) (h1 : 0 ≤ sp) (h2 : 0 ≤ dp) (h3 : 0 ≤ n) (h4 : sp + n ≤ L0) (h5 : dp + n ≤ L1) (K : GX Z B (pc + 3) L (st) (w.1, w.2.1, w.2.2.1, zCpy w.2.2.2 P0 P1 sp dp n)) : GX Z B pc L (pvI n :: pvI dp :: pvR 12 L1 P1 :: pvI sp :: pvR 12 L0 P0 :: st) w := by
  obtain ⟨p, l, e, R, s, m, args, below, meth, c, D, cs, A, Q⟩ := Z
  obtain ⟨M, d, w0, al0, o, X, b⟩ := B
  obtain ⟨⟨hx, hb, hml, hown⟩, hts, hA, ⟨hlk, hst, hrt, hin, hex⟩, hMF, ⟨hR1, hR2, hR3, hR4⟩, hXs⟩ := hC
  intro al H locs la hy
  obtain ⟨y1, y2, y3, y4, y5, y6, y7, y8, y9⟩ := id hy
  have hrn : r32 n := all_hd y3
  have hrd : r32 dp := all_hd (all_tl y3)
  have hs1 := PVok.R.mp (all_hd (all_tl (all_tl y3)))
  have hrs : r32 sp := all_hd (all_tl (all_tl (all_tl y3)))
  have hs0 := PVok.R.mp (all_hd (all_tl (all_tl (all_tl (all_tl y3)))))
  have cn9 := r32_cl hrn h3
  have cd9 := r32_cl hrd h2
  have cs9 := r32_cl hrs h1
  have nn : ∀ {z : Int}, r32 z → 0 ≤ z → ¬ Int32.ofInt z < 0 := fun hz h0 h => by have := (i_lt hz (r32_c rfl : r32 0)).mp h; omega
  refine va_copyi (sp := Int32.ofInt sp) (dp := Int32.ofInt dp) (n := Int32.ofInt n) (a0 := al P0) (a := al P1) hx hb (hml.trans y6.2.1.symm) hown (hts _ hl) (hts _ (by decide +kernel)) (hts _ (by decide +kernel)) (hts _ (by decide +kernel)) hMF.1 y7 y8 y9 (ix w.2.1 P0) (ix w.2.1 P1) 0 0 (cel_i hs0) (cel_i hs1) rfl rfl rfl (nn hrs h1) (nn hrd h2) (nn hrn h3) (by omega) (by omega) (fun i _ => rfl) (by omega) (Nat.le_trans (bump al b hs) (Nat.le_trans (Nat.le_of_ble_eq_true rfl : 20 + (nativeFrameWords "java/lang/System" "arraycopy" 5 + 11) ≤ 150) (by omega))) hd (fun H1 locs1 q1 q2 q3 => ?_)
  have he : (va_cpy (fun j : Nat => Int32.ofInt (w.2.2.2 P0 j)) (fun j : Nat => Int32.ofInt (w.2.2.2 P1 j)) (Int32.ofInt sp).toNatClampNeg (Int32.ofInt dp).toNatClampNeg (Int32.ofInt n).toNatClampNeg) = fun j : Nat => Int32.ofInt (zCpy w.2.2.2 P0 P1 sp dp n P1 j) := by
    funext j
    unfold va_cpy zCpy
    by_cases hj : (Int32.ofInt dp).toNatClampNeg ≤ j ∧ j < (Int32.ofInt dp).toNatClampNeg + (Int32.ofInt n).toNatClampNeg
    · rw [if_pos hj, if_pos ⟨rfl, by omega, by omega⟩]
      have e9 : (((Int32.ofInt sp).toNatClampNeg + (j - (Int32.ofInt dp).toNatClampNeg) : Nat) : Int) = sp + (j - dp) := by omega
      show Int32.ofInt (w.2.2.2 P0 (((Int32.ofInt sp).toNatClampNeg + (j - (Int32.ofInt dp).toNatClampNeg) : Nat) : Int)) = _
      rw [e9]
    · rw [if_neg hj, if_neg (fun z => hj ⟨by omega, by omega⟩)]
  have ho : ∀ q, q ≠ P1 → zCpy w.2.2.2 P0 P1 sp dp n q = w.2.2.2 q := fun q hq => by funext j; unfold zCpy; rw [if_neg (fun z => hq z.1)]
  rw [he, wsv_set (σ' := zCpy w.2.2.2 P0 P1 sp dp n) hs1.1 (by simp [cel, hs1.2.1, hs1.2.2]) ho] at q1 q2
  refine K al H1 locs1 la ⟨y1, y2.arr hs1 (by omega) ho (fun i => ?_), all_tl (all_tl (all_tl (all_tl (all_tl y3)))), y4, y5, y6, q1, q2, q3⟩
  show r32 (zCpy _ _ _ _ _ _ P1 i)
  unfold zCpy
  split
  · exact y2.2.2.2.1 P0 12 L0 _ hs0 (by omega)
  · exact y2.2.2.2.1 P1 12 L1 _ hs1 (by omega)
theorem s_obj {Z : Act} {B : Bg} (hC : Cx Z B) {pc : Nat} {L : Lc} {w : Wd} {st : List PV} {idx k L0 P : Nat} (hd : decode (mB B.1) pc = .ok (.invokespecial idx, 3)) (hl : Cond.methodLink (zOwn (mC B.1)) idx Lib.objectInit ∈ lw_good) (hs : catS st ≤ 20) (K : GX Z B (pc + 3) L (st) w) : GX Z B pc L (pvR k L0 P :: st) w := by
  obtain ⟨p, l, e, R, s, m, args, below, meth, c, D, cs, A, Q⟩ := Z
  obtain ⟨M, d, w0, al0, o, X, b⟩ := B
  obtain ⟨⟨hx, hb, hml, hown⟩, hts, hA, ⟨hlk, hst, hrt, hin, hex⟩, hMF, ⟨hR1, hR2, hR3, hR4⟩, hXs⟩ := hC
  intro al H locs la hy
  obtain ⟨y1, y2, y3, y4, y5, y6, y7, y8, y9⟩ := id hy
  refine W.objInit (a := al P) (rest := st.map (vl al b)) hx hb hown (hts _ hl) (hts _ (by decide +kernel)) (hts _ (by decide +kernel)) rfl (y6.2.1.trans hml.symm) rfl hd (by omega) ?_ (K al H locs la (hy.st (all_tl y3)))
  have h9 : (F0 m pc la (List.map (vl al b) (pvR k L0 P :: st))).monitorRoom = 0 := rfl
  rw [h9, vl_catS]
  omega
/-! what a method's end owes -/
def CQ (D : va_G) (cs : Cids) (al0 : Nat → Nat) (A : Nat → Prop) (w0 : Wd) (out : Out) : Array Value → State → Outcome → State → Prop := fun _ st oc t => out.1 = 0 ∧ (∃ al : Nat → Nat, (∀ p, inn w0.2.1 p → al p = al0 p) ∧ oc = .returned (out.2.1.map (vl al 0)) ∧ va_P D vwCl (wsv al cs out.2.2.2.2.2 out.2.2.2.1) t.heap ∧ va_D A (wsv al cs out.2.2.2.2.2 out.2.2.2.1)) ∧ TyM out.2.2.1 out.2.2.2.1 out.2.2.2.2.2 ∧ (∀ v, out.2.1 = some v → PVok out.2.2.2.1 v ∧ v.1 ≠ 3) ∧ va_F A st t
def CX (D : va_G) (cs : Cids) (al0 : Nat → Nat) (A : Nat → Prop) (w0 : Wd) (out : Out) : String → State → State → Prop := fun E st t => (out.1 ≠ 0 ∧ out.1 ≤ 3) ∧ E = zX out.1 ∧ (∃ al : Nat → Nat, (∀ p, inn w0.2.1 p → al p = al0 p) ∧ va_P D vwCl (wsv al cs out.2.2.2.2.2 out.2.2.2.1) t.heap ∧ va_D A (wsv al cs out.2.2.2.2.2 out.2.2.2.1)) ∧ TyM out.2.2.1 out.2.2.2.1 out.2.2.2.2.2 ∧ va_F A st t
/-- the place's goal is the method's end -/
def QQ (Z : Act) (B : Bg) (out : Out) : Prop := match Z, B with
  | (_, _, _, _, s, _, args, below, _, _, D, cs, A, Q), (_, _, w0, al0, o, _, _) => o = out.2.2 ∧ Q = vx_MQ below (CQ D cs al0 A w0 out) (CX D cs al0 A w0 out) args s (cn o w0) (sn o w0) A
theorem s_iret {Z : Act} {B : Bg} (hC : Cx Z B) {pc : Nat} {L : Lc} {w : Wd} {x : Int} (h : (mR B.1 = some .int) ∨ (mR B.1 = some .boolean ∧ 0 ≤ x ∧ x ≤ 1)) (hd : decode (mB B.1) pc = .ok (.ireturn, 1)) (hQ : QQ Z B (0, some (pvI x), w)) : GX Z B pc L [pvI x] w := by
  obtain ⟨p, l, e, R, s, m, args, below, meth, c, D, cs, A, Q⟩ := Z
  obtain ⟨M, d, w0, al0, o, X, b⟩ := B
  obtain ⟨⟨hx, hb, hml, hown⟩, hts, hA, ⟨hlk, hst, hrt, hin, hex⟩, hMF, ⟨hR1, hR2, hR3, hR4⟩, hXs⟩ := hC
  intro al H locs la hy
  obtain ⟨y1, y2, y3, y4, y5, y6, y7, y8, y9⟩ := id hy
  obtain ⟨ho, rfl⟩ := hQ
  have ho2 : w = o := ho.symm
  subst ho2
  have hv : ∀ v, some (pvI x) = some v → PVok w.2.1 v ∧ v.1 ≠ 3 := fun v h => by cases h; exact ⟨all_hd y3, Nat.zero_ne_add_one 2⟩
  rcases h with h | ⟨h, h0, h1⟩
  · exact vx_ret (W.iret (v := Int32.ofInt x) hx hb (hrt.trans h) (fun t ht hw => ⟨rfl, ⟨al, y5, rfl, by rw [ht]; exact y7, y8⟩, y2, hv, y9.F ht⟩) y9.2.2 hd hlk)
  · refine vx_ret (W.zret (v := Int32.ofInt x) (ty := .boolean) hx hb (hrt.trans h) ?_ (fun t ht hw => ⟨rfl, ⟨al, y5, rfl, by rw [ht]; exact y7, y8⟩, y2, hv, y9.F ht⟩) y9.2.2 hd hlk)
    rcases (show x = 0 ∨ x = 1 by omega) with rfl | rfl <;> rfl
theorem s_lret {Z : Act} {B : Bg} (hC : Cx Z B) {pc : Nat} {L : Lc} {w : Wd} {x : Int} (h : mR B.1 = some .long) (hd : decode (mB B.1) pc = .ok (.lreturn, 1)) (hQ : QQ Z B (0, some (pvL x), w)) : GX Z B pc L [pvL x] w := by
  obtain ⟨p, l, e, R, s, m, args, below, meth, c, D, cs, A, Q⟩ := Z
  obtain ⟨M, d, w0, al0, o, X, b⟩ := B
  obtain ⟨⟨hx, hb, hml, hown⟩, hts, hA, ⟨hlk, hst, hrt, hin, hex⟩, hMF, ⟨hR1, hR2, hR3, hR4⟩, hXs⟩ := hC
  intro al H locs la hy
  obtain ⟨y1, y2, y3, y4, y5, y6, y7, y8, y9⟩ := id hy
  obtain ⟨ho, rfl⟩ := hQ
  have ho2 : w = o := ho.symm
  subst ho2
  have hv : ∀ v, some (pvL x) = some v → PVok w.2.1 v ∧ v.1 ≠ 3 := fun v h => by cases h; exact ⟨all_hd y3, show 1 ≠ 3 by omega⟩
  exact vx_ret (W.lret (v := Int64.ofInt x) hx hb (hrt.trans h) (fun t ht hw => ⟨rfl, ⟨al, y5, rfl, by rw [ht]; exact y7, y8⟩, y2, hv, y9.F ht⟩) y9.2.2 hd hlk)
theorem s_aret {Z : Act} {B : Bg} (hC : Cx Z B) {pc : Nat} {L : Lc} {w : Wd} {v : PV} {n : String} (h2 : 2 ≤ v.1) (h3 : v.1 ≠ 3) (h : mR B.1 = some (.object n) ∨ mR B.1 = some (.array .int)) (hd : decode (mB B.1) pc = .ok (.areturn, 1)) (hQ : QQ Z B (0, some v, w)) : GX Z B pc L [v] w := by
  obtain ⟨p, l, e, R, s, m, args, below, meth, c, D, cs, A, Q⟩ := Z
  obtain ⟨M, d, w0, al0, o, X, b⟩ := B
  obtain ⟨⟨hx, hb, hml, hown⟩, hts, hA, ⟨hlk, hst, hrt, hin, hex⟩, hMF, ⟨hR1, hR2, hR3, hR4⟩, hXs⟩ := hC
  intro al H locs la hy
  obtain ⟨y1, y2, y3, y4, y5, y6, y7, y8, y9⟩ := id hy
  obtain ⟨ho, rfl⟩ := hQ
  have ho2 : w = o := ho.symm
  subst ho2
  have hv : ∀ u, some v = some u → PVok w.2.1 u ∧ u.1 ≠ 3 := fun u h => by cases h; exact ⟨all_hd y3, h3⟩
  rcases h with h | h
  · exact vx_ret (W.aret (v := vl al b v) hx hb (hrt.trans h) (Or.inl ⟨_, rfl⟩) (vl_ref (n := w.2.1) h2) (fun t ht hw => ⟨rfl, ⟨al, y5, by rw [vl_b h3]; rfl, by rw [ht]; exact y7, y8⟩, y2, hv, y9.F ht⟩) y9.2.2 hd hlk)
  · exact vx_ret (W.aret (v := vl al b v) hx hb (hrt.trans h) (Or.inr ⟨_, rfl⟩) (vl_ref (n := w.2.1) h2) (fun t ht hw => ⟨rfl, ⟨al, y5, by rw [vl_b h3]; rfl, by rw [ht]; exact y7, y8⟩, y2, hv, y9.F ht⟩) y9.2.2 hd hlk)
theorem s_vret {Z : Act} {B : Bg} (hC : Cx Z B) {pc : Nat} {L : Lc} {w : Wd} (h : mR B.1 = none) (hd : decode (mB B.1) pc = .ok (.return_, 1)) (hQ : QQ Z B (0, none, w)) : GX Z B pc L [] w := by
  obtain ⟨p, l, e, R, s, m, args, below, meth, c, D, cs, A, Q⟩ := Z
  obtain ⟨M, d, w0, al0, o, X, b⟩ := B
  obtain ⟨⟨hx, hb, hml, hown⟩, hts, hA, ⟨hlk, hst, hrt, hin, hex⟩, hMF, ⟨hR1, hR2, hR3, hR4⟩, hXs⟩ := hC
  intro al H locs la hy
  obtain ⟨y1, y2, y3, y4, y5, y6, y7, y8, y9⟩ := id hy
  obtain ⟨ho, rfl⟩ := hQ
  have ho2 : w = o := ho.symm
  subst ho2
  exact vx_ret (W.vret hx hb (hrt.trans h) (fun t ht hw => ⟨rfl, ⟨al, y5, rfl, by rw [ht]; exact y7, y8⟩, y2, (fun v h => by cases h), y9.F ht⟩) y9.2.2 hd hlk)

/-! ===== fields, arrays, ends, throws hold at the machine ===== -/
theorem r32_in {i : Int} {L : Nat} (hr : r32 i) (h0 : 0 ≤ i) (h1 : i < L) : vp_in (Int32.ofInt i) L := vp_in_iff.mpr (by rw [toInt32_r hr]; exact ⟨h0, h1⟩)
theorem r32_cl {i : Int} (hr : r32 i) (h0 : 0 ≤ i) : ((Int32.ofInt i).toNatClampNeg : Int) = i := by
  have h1 : (Int32.ofInt i).toNatClampNeg = (Int32.ofInt i).toInt.toNat := by simp [Int32.toNatClampNeg]
  rw [h1, toInt32_r hr]
  omega
theorem r32_clN {i : Int} (hr : r32 i) (h0 : 0 ≤ i) : (Int32.ofInt i).toNatClampNeg = i.toNat := by
  have := r32_cl hr h0
  omega
/-! the cells of a world -/
theorem cel_o {al : Nat → Nat} {cs : Cids} {σ : Hp} {n p k L : Nat} (h : Sh n p k L) (hk : k < 12) : (wsv al cs σ n)[ix n p]? = some (al p, .inr (k, flds k al (σ p))) := by
  rw [wsv_get h.1]
  unfold cel
  rw [if_pos (by rw [h.2.1]; exact hk), h.2.1]
theorem cel_i {al : Nat → Nat} {cs : Cids} {σ : Hp} {n p L : Nat} (h : Sh n p 12 L) : (wsv al cs σ n)[ix n p]? = some (al p, .inl (cs.1, L, .inl fun j => Int32.ofInt (σ p j))) := by
  rw [wsv_get h.1]
  simp [cel, h.2.1, h.2.2]
theorem cel_l {al : Nat → Nat} {cs : Cids} {σ : Hp} {n p L : Nat} (h : Sh n p 13 L) : (wsv al cs σ n)[ix n p]? = some (al p, .inl (cs.2.1, L, .inr (.inl fun j => Int64.ofInt (σ p j)))) := by
  rw [wsv_get h.1]
  simp [cel, h.2.1, h.2.2]
theorem cel_z {al : Nat → Nat} {cs : Cids} {σ : Hp} {n p L : Nat} (h : Sh n p 14 L) : (wsv al cs σ n)[ix n p]? = some (al p, .inl (cs.2.2.1, L, .inl fun j => Int32.ofInt (σ p j))) := by
  rw [wsv_get h.1]
  simp [cel, h.2.1, h.2.2]
theorem cel_f {al : Nat → Nat} {cs : Cids} {σ : Hp} {n p L : Nat} (h : Sh n p 15 L) : (wsv al cs σ n)[ix n p]? = some (al p, .inl (cs.2.2.2.1, L, .inr (.inr (.inr (.inr fun j => rfo al (σ p j)))))) := by
  rw [wsv_get h.1]
  simp [cel, h.2.1, h.2.2]
theorem cel_r {al : Nat → Nat} {cs : Cids} {σ : Hp} {n p L : Nat} (h : Sh n p 16 L) : (wsv al cs σ n)[ix n p]? = some (al p, .inl (cs.2.2.2.2, L, .inr (.inr (.inr (.inr fun j => rfo al (σ p j)))))) := by
  rw [wsv_get h.1]
  simp [cel, h.2.1, h.2.2]
theorem upd_of {σ : Hp} {P : Nat} {i x : Int} (hr : r32 i) (h0 : 0 ≤ i) : (upd (fun j => Int32.ofInt (σ P j)) (Int32.ofInt i).toNatClampNeg (Int32.ofInt x)) = fun j : Nat => Int32.ofInt (hset σ P i x P j) := by
  have hc := r32_cl hr h0
  funext j
  unfold upd hset
  by_cases e : j = (Int32.ofInt i).toNatClampNeg
  · rw [if_pos e, if_pos ⟨rfl, by omega⟩]
  · rw [if_neg e, if_neg (fun z => e (by have := z.2; omega))]
theorem updL_of {σ : Hp} {P : Nat} {i x : Int} (hr : r32 i) (h0 : 0 ≤ i) : (vp_updL (fun j => Int64.ofInt (σ P j)) (Int32.ofInt i).toNatClampNeg (Int64.ofInt x)) = fun j : Nat => Int64.ofInt (hset σ P i x P j) := by
  have hc := r32_cl hr h0
  funext j
  unfold vp_updL hset
  by_cases e : j = (Int32.ofInt i).toNatClampNeg
  · rw [if_pos e, if_pos ⟨rfl, by omega⟩]
  · rw [if_neg e, if_neg (fun z => e (by have := z.2; omega))]
theorem upF_of {al : Nat → Nat} {σ : Hp} {P : Nat} {i x : Int} (hr : r32 i) (h0 : 0 ≤ i) (hx : 0 ≤ x) : (va_up (fun j => rfo al (σ P j)) (Int32.ofInt i).toNatClampNeg (some (al x.toNat))) = fun j : Nat => rfo al (hset σ P i x P j) := by
  have hc := r32_cl hr h0
  funext j
  unfold va_up hset
  by_cases e : j = (Int32.ofInt i).toNatClampNeg
  · rw [if_pos e, if_pos ⟨rfl, by omega⟩]
    unfold rfo
    rw [if_neg (by omega)]
  · rw [if_neg e, if_neg (fun z => e (by have := z.2; omega))]
/-! fields -/
theorem tb_good {w : Cond} {i : Nat} (h : tables_1[i]? = some w) (g : goodWord w = true) : w ∈ lw_good := List.mem_filter.mpr ⟨List.mem_append_right _ (List.mem_of_getElem? h), g⟩
/-- ws in their order among the table's words -/
def subL : List Cond → List Cond → Bool
  | [], ws => ws.isEmpty
  | t :: ts, ws => match ws with
    | [] => true
    | w :: ws' => if w = t then subL ts ws' else subL ts ws
theorem subL_mem : ∀ {tbl ws : List Cond}, subL tbl ws = true → ∀ w ∈ ws, w ∈ tbl
  | [], ws, h, w, hw => by
    unfold subL at h
    rw [List.isEmpty_iff.mp h] at hw
    cases hw
  | t :: ts, ws, h, w, hw => by
    unfold subL at h
    split at h
    · cases hw
    · rename_i w' ws'
      split at h
      · rename_i e
        rcases List.mem_cons.mp hw with rfl | hw
        · rw [e]; exact List.mem_cons_self
        · exact List.mem_cons_of_mem _ (subL_mem h w hw)
      · exact List.mem_cons_of_mem _ (subL_mem h w hw)
theorem sub_good {ws : List Cond} (h : (subL tables_1 ws && ws.all goodWord) = true) : ∀ w ∈ ws, w ∈ lw_good := fun w hw => by
  simp only [Bool.and_eq_true] at h
  exact List.mem_filter.mpr ⟨List.mem_append_right _ (subL_mem h.1 w hw), List.all_eq_true.mp h.2 w hw⟩
def fldW (q : Nat × Nat × Nat × Nat) : Cond := match vwCl[q.2.2.1]? with
  | some (_, T, _) => Cond.fieldLink (zOwn q.1) q.2.1 (T q.2.2.2).1 (T q.2.2.2).2.1 (T q.2.2.2).2.2.1
  | none => .tt
theorem fld_in : (subL tables_1 (rFldL.map fldW) && (rFldL.map fldW).all goodWord) = true := by decide +kernel
theorem fld_lt : (rFldL.all fun q => match vwCl[q.2.2.1]? with | some (_, _, N) => decide (q.2.2.2 < N) | none => false) = true := by decide +kernel
theorem fld_word {c i k j : Nat} (h : rFld c i = some (k, j)) : ∃ (C : String) (T : u_T) (N : Nat), vwCl[k]? = some (C, T, N) ∧ j < N ∧ Cond.fieldLink (zOwn c) i (T j).1 (T j).2.1 (T j).2.2.1 ∈ lw_good := by
  have hm := find_mem h
  have h1 := List.all_eq_true.mp fld_lt _ hm
  have h2 := sub_good fld_in _ (List.mem_map.mpr ⟨_, hm, rfl⟩)
  unfold fldW at h2
  dsimp only at h1 h2
  split at h1
  · rename_i C T N hk
    rw [hk] at h2
    exact ⟨C, T, N, hk, of_decide_eq_true h1, h2⟩
  · cases h1
def tyOk (k : Nat) : Bool := match vwCl[k]? with
  | some (C, T, N) => decide (C = zOwn k) && (List.range N).all fun j => decide ((T j).1 = zOwn k) && match (zFld k)[j]?, zTy k j with
    | some (0, _), .int => !(T j).2.2.2
    | some (1, _), .long => !(T j).2.2.2
    | some (2, _), .boolean => !(T j).2.2.2
    | some (3, _), .object _ => !(T j).2.2.2
    | some (4, _), .object _ => (T j).2.2.2
    | some (4, _), .array _ => (T j).2.2.2
    | _, _ => false
  | none => true
theorem ty_ok : (List.range 11).all tyOk = true := by decide +kernel
theorem cl_len {k : Nat} {q : vw_C} (h : vwCl[k]? = some q) : k < 11 := (List.getElem?_eq_some_iff.mp h).1
/-- a field's type, by its kind -/
def tyK (c : Nat) (t : FieldType) : Prop := match c with
  | 0 => t = .int
  | 1 => t = .long
  | 2 => t = .boolean
  | _ => (∃ n, t = .object n) ∨ ∃ n, t = .array n
theorem fld_ty {k j c : Nat} {o : Int} {C : String} {T : u_T} {N : Nat} (hk : vwCl[k]? = some (C, T, N)) (hj : j < N) (hf : (zFld k)[j]? = some (c, o)) : C = zOwn k ∧ (T j).1 = zOwn k ∧ c ≤ 4 ∧ tyK c (zTy k j) ∧ (T j).2.2.2 = decide (c = 4) := by
  have h1 := List.all_eq_true.mp ty_ok k (List.mem_range.mpr (cl_len hk))
  unfold tyOk at h1
  rw [hk] at h1
  dsimp only at h1
  simp only [Bool.and_eq_true, decide_eq_true_eq] at h1
  have h2 := List.all_eq_true.mp h1.2 j (List.mem_range.mpr hj)
  rw [hf] at h2
  simp only [Bool.and_eq_true, decide_eq_true_eq] at h2
  refine ⟨h1.1, h2.1, ?_⟩
  have h3 := h2.2
  split at h3
  · rename_i e1 e2; cases e1; exact ⟨by omega, by rw [e2]; rfl, by simpa using h3⟩
  · rename_i e1 e2; cases e1; exact ⟨by omega, by rw [e2]; rfl, by simpa using h3⟩
  · rename_i e1 e2; cases e1; exact ⟨by omega, by rw [e2]; rfl, by simpa using h3⟩
  · rename_i e1 e2; cases e1; exact ⟨by omega, by rw [e2]; exact Or.inl ⟨_, rfl⟩, by simpa using h3⟩
  · rename_i e1 e2; cases e1; exact ⟨by omega, by rw [e2]; exact Or.inl ⟨_, rfl⟩, by simpa using h3⟩
  · rename_i e1 e2; cases e1; exact ⟨by omega, by rw [e2]; exact Or.inr ⟨_, rfl⟩, by simpa using h3⟩
  · cases h3
theorem rcv_ok {al : Nat → Nat} {b n k P : Nat} {v : PV} (h : rcv v k P) (hv : PVok n v) : Sh n P k 0 ∧ vl al b v = .ref (al P) := by
  rcases h with rfl | ⟨rfl, rfl⟩
  · exact ⟨PVok.R.mp hv, rfl⟩
  · rcases (hv : fOk n (P : Int)) with h | ⟨P', h1, h2⟩
    · exact absurd (show (P : Int) = -1 from h) (by omega)
    · have : P' = P := by have : (P : Int) = (P' : Int) := h1; omega
      subst this
      refine ⟨h2, ?_⟩
      show va_rf (rfo al (P' : Int)) = _
      unfold rfo
      rw [if_neg (by omega)]
      rfl
theorem fvl_R {al : Nat → Nat} {c P : Nat} (hc : 3 ≤ c) : fvl al c (P : Int) = .ref (al P) := by
  match c, hc with
  | c + 3, _ =>
    show va_rf (rfo al (P : Int)) = _
    unfold rfo
    rw [if_neg (by omega)]
    rfl
theorem get_ok {al : Nat → Nat} {b : Nat} {md : Bool} {n k j P c : Nat} {o : Int} {σ : Hp} {v : PV} (hT : TyM md n σ) (hs : Sh n P k 0) (hf : (zFld k)[j]? = some (c, o)) (hc : c ≤ 4) (hg : fvG md σ k j P v) : PVok n v ∧ vl al b v = fvl al c (σ P j) := by
  have h9 := hT.2.2.1 P k j c o hs hf
  unfold fvG at hg
  rw [hf] at hg
  match c, hc, hg with
  | 0, _, hg => cases hg; exact ⟨h9, rfl⟩
  | 1, _, hg => cases hg; exact ⟨h9, rfl⟩
  | 2, _, hg =>
    cases hg
    refine ⟨?_, rfl⟩
    have h9 : 0 ≤ σ P j ∧ σ P j ≤ 1 := h9
    show r32 (σ P j)
    unfold r32
    omega
  | 3, _, hg => cases hg; exact ⟨h9, rfl⟩
  | 4, _, hg =>
    obtain ⟨k', L', P', h1, h2, rfl, h4⟩ := hg
    obtain ⟨h5, h6⟩ := hT.tgt hs hf h1 h2 h4
    refine ⟨PVok.R.mpr h5, ?_⟩
    rw [h6, fvl_R (by omega)]
    rfl
theorem s_get {Z : Act} {B : Bg} (hC : Cx Z B) {pc : Nat} {L : Lc} {w : Wd} {st : List PV} {idx k j P : Nat} {v0 v : PV} (hd : decode (mB B.1) pc = .ok (.getfield idx, 3)) (hf : rFld (mC B.1) idx = some (k, j)) (hr : rcv v0 k P) (hg : fvG w.1 w.2.2.2 k j P v) (K : GX Z B (pc + 3) L (v :: st) w) : GX Z B pc L (v0 :: st) w := by
  obtain ⟨p, l, e, R, s, m, args, below, meth, c, D, cs, A, Q⟩ := Z
  obtain ⟨M, d, w0, al0, o, X, b⟩ := B
  obtain ⟨⟨hx, hb, hml, hown⟩, hts, hA, ⟨hlk, hst, hrt, hin, hex⟩, hMF, hR, hXs⟩ := hC
  intro al H locs la hy
  obtain ⟨y1, y2, y3, y4, y5, y6, y7, y8, y9⟩ := id hy
  obtain ⟨C, T, N, hk, hj, hw⟩ := fld_word hf
  obtain ⟨hsh, hv0⟩ := rcv_ok (al := al) (b := b) hr (all_hd y3)
  have hk12 : k < 12 := Nat.lt_succ_of_lt (cl_len hk)
  have hlen := (cls_ty hk).2.2
  have hj2 : j < (zFld k).length := by rw [hlen]; exact hj
  obtain ⟨⟨cc9, o9⟩, hz⟩ : ∃ x, (zFld k)[j]? = some x := ⟨_, List.getElem?_eq_getElem hj2⟩
  obtain ⟨t1, t2, t3, t4, t5⟩ := fld_ty hk hj hz
  obtain ⟨g1, g2⟩ := get_ok (al := al) (b := b) y2 hsh hz t3 hg
  have KK : W p l e R s m args below meth c H locs (cn w w0) (sn w w0) Q (F0 m (pc + 3) la (vl al b v :: st.map (vl al b))) := K al H locs la (hy.st (all_cons g1 (all_tl y3)))
  show W p l e R s m args below meth c H locs (cn w w0) (sn w w0) Q (F0 m pc la (vl al b v0 :: st.map (vl al b)))
  rw [hv0]
  rw [g2] at KK
  exact va_get hx hb hts (cls_in hk) hown hMF.1 y7 (ix w.2.1 P) (cel_o hsh hk12) hk j hj (hts _ hw) (fun _ h => h) (flds_get hz) hd KK
theorem fit_ok {al : Nat → Nat} {n c : Nat} {p : Nat} {o : Int} {md : Bool} {t : FieldType} {x : Int} (hc : tyK c t) (hx : tyF md n p c o x) : narrow t (fvl al c x) = fvl al c x ∧ fits t (fvl al c x) = true := by
  match c, hc, hx with
  | 0, hc, _ => cases hc; exact ⟨rfl, rfl⟩
  | 1, hc, _ => cases hc; exact ⟨rfl, rfl⟩
  | 2, hc, hx =>
    cases hc
    have hx : 0 ≤ x ∧ x ≤ 1 := hx
    rcases (show x = 0 ∨ x = 1 by omega) with rfl | rfl
    · exact ⟨rfl, rfl⟩
    · exact ⟨rfl, rfl⟩
  | c + 3, hc, _ =>
    have h : fvl al (c + 3) x = .null ∨ ∃ a, fvl al (c + 3) x = .ref a := va_rf_or _
    rcases hc with ⟨n, rfl⟩ | ⟨n, rfl⟩ <;> rcases h with h | ⟨a, h⟩ <;> rw [h] <;> exact ⟨rfl, rfl⟩
theorem put_ok {al : Nat → Nat} {b : Nat} {md : Bool} {n k j P c : Nat} {o x : Int} {v : PV} (hv : PVok n v) (hf : (zFld k)[j]? = some (c, o)) (hc : c ≤ 4) (hg : fvP md k j P v x) : vl al b v = fvl al c x ∧ tyF md n P c o x ∧ (md = false → c = 4 → 0 ≤ (P : Int) + o ∧ inn n ((P : Int) + o).toNat) := by
  unfold fvP at hg
  rw [hf] at hg
  match c, hc, hg with
  | 0, _, hg => cases hg; exact ⟨rfl, hv, fun _ h => by omega⟩
  | 1, _, hg => cases hg; exact ⟨rfl, hv, fun _ h => by omega⟩
  | 2, _, hg => obtain ⟨rfl, h⟩ := hg; exact ⟨rfl, h, fun _ h => by omega⟩
  | 3, _, hg =>
    rcases hg with ⟨rfl, h⟩ | ⟨P', rfl, rfl⟩
    · exact ⟨rfl, hv, fun _ h => by omega⟩
    · exact ⟨by rw [fvl_R (by omega)]; rfl, Or.inr ⟨P', rfl, PVok.R.mp hv⟩, fun _ h => by omega⟩
  | 4, _, hg =>
    obtain ⟨h0, k', L', P', h1, h2, rfl, rfl⟩ := hg
    have h3 := (PVok.R.mp hv).1
    have e : ((P : Int) + o).toNat = P' := by omega
    exact ⟨by rw [fvl_R (by omega)]; rfl, Or.inl h2, fun _ _ => ⟨by omega, by rw [e]; exact h3⟩⟩
theorem s_put {Z : Act} {B : Bg} (hC : Cx Z B) {pc : Nat} {L : Lc} {w : Wd} {st : List PV} {idx k j P : Nat} {x : Int} {v0 v : PV} (hd : decode (mB B.1) pc = .ok (.putfield idx, 3)) (hf : rFld (mC B.1) idx = some (k, j)) (hr : rcv v0 k P) (hg : fvP w.1 k j P v x) (h4 : ((zFld k)[j]?.map Prod.fst) = some 4 → (mY B.1).name = "<init>" ∧ mC B.1 = k) (K : GX Z B (pc + 3) L st (w.1, w.2.1, w.2.2.1, hset w.2.2.2 P j x)) : GX Z B pc L (v :: v0 :: st) w := by
  obtain ⟨p, l, e, R, s, m, args, below, meth, c, D, cs, A, Q⟩ := Z
  obtain ⟨M, d, w0, al0, o, X, b⟩ := B
  obtain ⟨⟨hx, hb, hml, hown⟩, hts, hA, ⟨hlk, hst, hrt, hin, hex⟩, hMF, hR, hXs⟩ := hC
  intro al H locs la hy
  obtain ⟨y1, y2, y3, y4, y5, y6, y7, y8, y9⟩ := id hy
  obtain ⟨C, T, N, hk, hj, hw⟩ := fld_word hf
  obtain ⟨hsh, hv0⟩ := rcv_ok (al := al) (b := b) hr (all_hd (all_tl y3))
  have hk12 : k < 12 := Nat.lt_succ_of_lt (cl_len hk)
  have hct := cls_ty hk
  have hj2 : j < (zFld k).length := by rw [hct.2.2]; exact hj
  obtain ⟨⟨cc9, o9⟩, hz⟩ : ∃ x, (zFld k)[j]? = some x := ⟨_, List.getElem?_eq_getElem hj2⟩
  obtain ⟨t1, t2, t3, t4, t5⟩ := fld_ty hk hj hz
  obtain ⟨g1, g2, g3⟩ := put_ok (al := al) (b := b) (all_hd y3) hz t3 hg
  obtain ⟨f1, f2⟩ := fit_ok (al := al) t4 g2
  show W p l e R s m args below meth c H locs (cn w w0) (sn w w0) Q (F0 m pc la (vl al b v :: vl al b v0 :: st.map (vl al b)))
  rw [hv0, g1]
  have he := cel_o (al := al) (cs := cs) (σ := w.2.2.2) hsh hk12
  have hset9 : (wsv al cs w.2.2.2 w.2.1).set (ix w.2.1 P) (al P, .inr (k, (flds k al (w.2.2.2 P)).set j (fvl al cc9 x))) = wsv al cs (hset w.2.2.2 P j x) w.2.1 := by
    refine wsv_set hsh.1 ?_ (fun q hq => hset_ne hq)
    unfold cel
    rw [if_pos (by rw [hsh.2.1]; exact hk12), hsh.2.1, flds_set hz]
  have fin : ∀ (H1 : Heap) (locs1 : List Loc), va_P D vwCl ((wsv al cs w.2.2.2 w.2.1).set (ix w.2.1 P) (al P, .inr (k, (flds k al (w.2.2.2 P)).set j (fvl al cc9 x)))) H1 → va_D A ((wsv al cs w.2.2.2 w.2.1).set (ix w.2.1 P) (al P, .inr (k, (flds k al (w.2.2.2 P)).set j (fvl al cc9 x)))) → va_S A s.heap H1 locs1 → W p l e R s m args below meth c H1 locs1 (cn w w0) (sn w w0) Q (F0 m (pc + 3) la (st.map (vl al b))) := by
    intro H1 locs1 q1 q2 q3
    rw [hset9] at q1 q2
    exact K al H1 locs1 la ⟨y1, y2.setF hsh hz g2 g3, all_tl (all_tl y3), y4, y5, y6, q1, q2, q3⟩
  by_cases h9 : cc9 = 4
  · subst h9
    obtain ⟨n1, n2⟩ := h4 (by rw [hz]; rfl)
    exact va_putF hx hb hts (cls_in hk) (zTy k) hct.1 hct.2.1 hown hMF.1 y7 y8 y9 (ix w.2.1 P) he hk j hj (hts _ hw) (fun _ h => h) (by rw [t5]; rfl) (hin n1) (by rw [t2, n2]) (hct.1 j hj) f1 f2 (by rw [flds_len]; exact hj2) hd fin
  · exact va_put hx hb hts (cls_in hk) (zTy k) hct.1 hct.2.1 hown hMF.1 y7 y8 y9 (ix w.2.1 P) he hk j hj (hts _ hw) (fun _ h => h) (by rw [t5]; exact decide_eq_false h9) (hct.1 j hj) f1 f2 (by rw [flds_len]; exact hj2) hd fin

theorem tyF.mono {md : Bool} {n m p c : Nat} {o v : Int} (h : tyF md n p c o v) (hn : nle n m) : tyF md m p c o v := by
  match c, h with
  | 0, h => exact h
  | 1, h => exact h
  | 2, h => exact h
  | 3, h => exact fOk.mono h hn
  | c + 4, h => exact h
theorem tyA.mono {n m p k L : Nat} {i v : Int} (h : tyA n p k L i v) (hn : nle n m) : tyA m p k L i v := by
  by_cases e13 : k = 13
  · subst e13; exact h
  by_cases e14 : k = 14
  · subst e14; exact h
  by_cases e15 : k = 15
  · subst e15; exact fOk.mono h hn
  by_cases e16 : k = 16
  · subst e16; exact h
  have e : ∀ n, tyA n p k L i v = r32 v := fun n => by unfold tyA; split <;> first | rfl | (exfalso; omega)
  rw [e] at h ⊢
  exact h
/-- more cells, typed -/
theorem TyM.new {md : Bool} {n n' : Nat} {σ σ' : Hp} {N : Nat → Prop} (hT : TyM md n σ) (hle : nle n n') (hm : md = false → n' ≤ 130) (hm2 : md = true → nOk n') (hN : ∀ p, inn n' p → inn n p ∨ N p) (ho : ∀ p, inn n p → σ' p = σ p)
    (hf : ∀ (p j c : Nat) (o : Int), N p → ln p = 0 → (zFld (sh p))[j]? = some (c, o) → tyF md n' p c o (σ' p j) ∧ (c = 4 → md = false → σ' p j = -1))
    (ha : ∀ (p : Nat) (i : Int), N p → 12 ≤ sh p → tyA n' p (sh p) (ln p) i (σ' p i)) (hr : md = false → ∀ p, N p → sh p = 16 → p + 13 < n') : TyM md n' σ' := by
  have hlt : md = false → ∀ p, p < n' → inn n' p := fun e p hp => inn_of hp (by have := hm e; omega) (by have := hm e; omega)
  have hl2 : md = false → n ≤ 130 ∧ n ≤ n' := fun e => ⟨(hT.2.1 e).1, by have := hle.1; have := (hT.2.1 e).1; have := hm e; omega⟩
  refine ⟨hm2, fun e => ⟨hm e, fun p hp h16 => ?_⟩, fun p k j c o hs hz => ?_, fun p k L i hs hk => ?_, fun e p k j o hs hz hv => ?_⟩
  · rcases hN p (hlt e p hp) with h | h
    · have := (hT.2.1 e).2 p (inn_lt h (by have := hl2 e; omega)) h16
      have := hl2 e
      omega
    · exact hr e p h h16
  · rcases hN p hs.1 with h | h
    · rw [ho p h]
      exact (hT.2.2.1 p k j c o ⟨h, hs.2⟩ hz).mono hle
    · exact (hf p j c o h hs.2.2 (by rw [hs.2.1]; exact hz)).1
  · rcases hN p hs.1 with h | h
    · rw [ho p h]
      exact (hT.2.2.2.1 p k L i ⟨h, hs.2⟩ hk).mono hle
    · have := ha p i h (by rw [hs.2.1]; exact hk)
      rw [hs.2.1, hs.2.2] at this
      exact this
  · rcases hN p hs.1 with h | h
    · rw [ho p h] at hv
      have := hT.2.2.2.2 e p k j o ⟨h, hs.2⟩ hz hv
      exact ⟨this.1, this.2.mono hle⟩
    · have h4 := (hf p j 4 o h hs.2.2 (by rw [hs.2.1]; exact hz)).2 rfl e
      have hn := hm e
      have hall : ∀ p, p < 130 → ∀ j, j < (zFld (sh p)).length → ∀ o, (zFld (sh p))[j]? = some (4, o) → (p : Int) + o ≠ -1 := by
        intro p hp j hj o ho
        have hz9 : z_okT p = true := List.all_eq_true.mp z_okT_all p (List.mem_range.mpr hp)
        have h9 := List.all_eq_true.mp hz9 j (List.mem_range.mpr hj)
        rw [ho] at h9
        have hk := zFld_lt ho
        have hex : ∀ k, k < 12 → ∀ j, j < (zFld k).length → (zTgt k)[j]?.isSome = true := by decide +kernel
        obtain ⟨⟨k', L'⟩, ht⟩ := Option.isSome_iff_exists.mp (hex _ hk j hj)
        rw [ht] at h9
        simp only [Bool.and_eq_true, decide_eq_true_eq] at h9
        omega
      have hz2 : (zFld (sh p))[j]? = some (4, o) := by rw [hs.2.1]; exact hz
      exact absurd (by rw [← hv, h4]) (hall p (by have := inn_lt hs.1 (by omega); omega) j (List.getElem?_eq_some_iff.mp hz2).1 o hz2)
theorem cn_add {w w0 : Wd} {md : Bool} {n' k : Nat} {σ' : Hp} (h : le w0 w) (hk : cw n' = cw w.2.1 + k) : cn (md, n', w.2.2.1, σ') w0 = cn w w0 + k := by
  unfold cn
  have := cw_mono h.1; have := h.2
  dsimp only
  omega
theorem sn_add {w w0 : Wd} {md : Bool} {n' k : Nat} {σ' : Hp} (h : le w0 w) (hk : SL n' = SL w.2.1 + k) : sn (md, n', w.2.2.1, σ') w0 = sn w w0 + k := by
  unfold sn
  have := SL_mono h.1; have := h.2
  dsimp only
  omega
theorem cw_1 {n k : Nat} (h : n + k ≤ 130) : cw (n + k) = cw n + k := by
  unfold cw
  rw [if_pos (by omega), if_pos (by omega)]
  omega
theorem SL_1 {n : Nat} (h : n < 130) : SL (n + 1) = SL n + zSz n := by
  unfold SL
  rw [show (n + 1) % 1048576 = n % 1048576 + 1 by omega, show (n + 1) / 1048576 = n / 1048576 by omega, show n % 1048576 = n by omega]
  show Sl n + zSz n + _ = _
  omega
theorem nle_1 {n k : Nat} (h : n + k ≤ 130) : nle n (n + k) := by unfold nle; omega
theorem inn_1 {n : Nat} (h : n < 130) : (∀ p, inn (n + 1) p → inn n p ∨ p = n) ∧ ¬ inn n n ∧ inn (n + 1) n := by
  refine ⟨fun p hp => ?_, fun z => ?_, ?_⟩
  · unfold inn at hp ⊢; omega
  · unfold inn at z; omega
  · unfold inn; omega
def thrOk (q : Nat × Nat × Nat) : Bool := decide (Cond.classLink (zOwn q.1) q.2.1 (zX q.2.2) ∈ lw_good) && decide (Cond.initialized (zX q.2.2) ∈ lw_good)
theorem thr_ok : rThrL.all thrOk = true := by decide +kernel
theorem thr_word {c i x : Nat} (h : rThr c i = some x) : Cond.classLink (zOwn c) i (zX x) ∈ lw_good ∧ Cond.initialized (zX x) ∈ lw_good := by
  have h1 := List.all_eq_true.mp thr_ok _ (find_mem h)
  unfold thrOk at h1
  simp only [Bool.and_eq_true, decide_eq_true_eq] at h1
  exact h1
def tA (x ic : Nat) : List Cond := vx_atS RX10 ic (zX x) zSup
def tAok (x ic : Nat) : Bool := ((tA x ic).filter goodWord).all (fun w => decide (w ∈ lw_good)) && (((tA x ic).filter fun w => !goodWord w).all (fun w => decide (w ∈ zBad)) && (tA x ic).all vx_ot)
theorem tA1 : tAok 1 112 = true := by decide +kernel
theorem tA2 : tAok 2 274 = true := by decide +kernel
theorem tA3 : tAok 3 339 = true := by decide +kernel
theorem cpd_tab {w : Cond} (h : isCPD w = true) : w.onTables = true := by
  cases w with
  | castable a b => rfl
  | privateMethod x => rfl
  | declares x => rfl
  | _ => cases h
theorem tA_use {x ic : Nat} {args : Array Value} {s : State} (h : tAok x ic = true) (hts : ∀ w ∈ lw_good, w.before args s = true) (hb : ∀ w ∈ zBad, va_Nw w s) : (∀ w ∈ vx_atS RX10 ic (zX x) zSup, w.before args s = true) ∧ ∀ w ∈ vx_atS RX10 ic (zX x) zSup, vx_ot w = true := by
  unfold tAok at h
  simp only [Bool.and_eq_true] at h
  refine ⟨vx_hat (B := zBad) (fun w hw => hts w (of_decide_eq_true (List.all_eq_true.mp h.1 w hw))) (fun w hw => of_decide_eq_true (List.all_eq_true.mp h.2.1 w hw)) (fun w hw => va_Nw.use (cpd_tab (List.all_eq_true.mp zBad_ok w hw)) (hb w hw)), fun w hw => List.all_eq_true.mp h.2.2 w hw⟩
theorem zStr_own : ∀ q ∈ zStr, q.1 = "Cubecaller" := by decide +kernel
theorem s_throw {Z : Act} {B : Bg} (hC : Cx Z B) {pc idx x is ic ln : Nat} {L : Lc} {w : Wd} {st : List PV} (hd : decode (mB B.1) pc = .ok (.new idx, 3)) (h1 : rThr (mC B.1) idx = some x) (h10 : mC B.1 = 10) (hh : mH B.1 = []) (hs : catS st ≤ 8) (d3 : decode (mB B.1) (pc + 3) = .ok (.dup, 1))
    (d4 : (decode (mB B.1) (pc + 4) = .ok (.ldc is, 2) ∧ ln = 2) ∨ (decode (mB B.1) (pc + 4) = .ok (.ldc_w is, 3) ∧ ln = 3)) (d5 : decode (mB B.1) (pc + 4 + ln) = .ok (.invokespecial ic, 3)) (d6 : decode (mB B.1) (pc + 7 + ln) = .ok (.athrow, 1)) (hic : (x = 1 ∧ ic = 112) ∨ (x = 2 ∧ ic = 274) ∨ (x = 3 ∧ ic = 339)) (hstr : ∃ t, ("Cubecaller", is, t) ∈ zStr)
    (hQ : QQ Z B (x, none, w.1, w.2.1, w.2.2.1 + 1, w.2.2.2)) : GX Z B pc L st w := by
  obtain ⟨p, l, e, R, s, m, args, below, meth, c, D, cs, A, Q⟩ := Z
  obtain ⟨M, d, w0, al0, o, X, b⟩ := B
  obtain ⟨⟨hx, hb, hml, hown⟩, hts, hA, ⟨hlk, hst, hrt, hin, hex⟩, hMF, ⟨hR1, hR2, hR3, hR4⟩, hXs⟩ := hC
  intro al H locs la hy
  obtain ⟨y1, y2, y3, y4, y5, y6, y7, y8, y9⟩ := id hy
  obtain ⟨ho, rfl⟩ := hQ
  have hown : s.vm.findClass (zOwn (mC M)) = some m.cls := hown
  have h10 : mC M = 10 := h10
  rw [h10] at hown
  have hown : s.vm.findClass RX10 = some m.cls := hown
  have hx13 : x ≠ 0 ∧ x ≤ 3 := by rcases hic with ⟨h, -⟩ | ⟨h, -⟩ | ⟨h, -⟩ <;> omega
  have htA : tAok x ic = true := by
    rcases hic with ⟨rfl, rfl⟩ | ⟨rfl, rfl⟩ | ⟨rfl, rfl⟩
    · exact tA1
    · exact tA2
    · exact tA3
  obtain ⟨u1, u2⟩ := tA_use htA hts hMF.2.2.2.2.1
  obtain ⟨v1, v2⟩ := thr_word h1
  have v1 : Cond.classLink (zOwn (mC M)) idx (zX x) ∈ lw_good := v1
  rw [h10] at v1
  have v1 : Cond.classLink RX10 idx (zX x) ∈ lw_good := v1
  obtain ⟨tx, htx⟩ := hstr
  obtain ⟨sa, hsa⟩ := hMF.2.2.1 _ htx
  have hcls : Bundle.fit (zX x) = true := by rcases hic with ⟨rfl, -⟩ | ⟨rfl, -⟩ | ⟨rfl, -⟩ <;> decide +kernel
  have hgood : ∀ w ∈ Cond.classLink RX10 idx (zX x) :: Cond.initialized (zX x) :: vx_atS RX10 ic (zX x) zSup, vx_ot w = true := by
    intro w hw
    rcases List.mem_cons.mp hw with rfl | hw
    · have := (List.mem_filter.mp v1).2; simp [vx_ot, this]
    · rcases List.mem_cons.mp hw with rfl | hw
      · have := (List.mem_filter.mp v2).2; simp [vx_ot, this]
      · exact u2 w hw
  have hXC : ∀ t : State, s.vm.Alike t.vm → H.size ≤ t.heap.size → (∀ q : Nat, q < H.size → t.heap[q]? = H[q]?) → CX D cs al0 A w0 (x, none, w.1, w.2.1, w.2.2.1 + 1, w.2.2.2) (zX x) s t := by
    intro t _ hz hk
    refine ⟨hx13, rfl, ⟨al, y5, y7.kept (fun k q hq => hk _ (vx_lt y7 hq)), y8⟩, y2, ⟨Nat.le_trans y9.1 hz, fun q q1 q2 => ?_⟩⟩
    rw [hk q (Nat.lt_of_lt_of_le q1 y9.1)]
    exact y9.2.1 q q1 q2
  have hc9 : cn w w0 + 1 = cn o w0 := by
    rw [ho]
    unfold cn
    have := cw_mono y1.1.1; have := y1.1.2
    dsimp only
    omega
  have hs9 : sn w w0 + 6 = sn o w0 := by
    rw [ho]
    unfold sn
    have := SL_mono y1.1.1; have := y1.1.2
    dsimp only
    omega
  have hout : ∀ x ∈ c.exceptionTable.toList, covers x (pc + 7 + ln) = false := by
    have hh : mH M = [] := hh
    rw [hex, hh]
    intro x hx
    cases hx
  have hrl : ((st.map (vl al b)).map fun v => v.category).sum + (13 * (zSup.length + 1) + 43) ≤ R.locals := by
    rw [vl_catS]
    have : zSup.length = 2 := rfl
    omega
  rcases d4 with ⟨d4, rfl⟩ | ⟨d4, rfl⟩
  · exact vx_throwS hx hb hst hown hcls (by decide +kernel) (hts _ v1) (hts _ v2) hsa u1 hgood hMF.2.2.2.2.2.1 hMF.2.2.2.2.2.2.1 y9 (y6.2.1.trans hml.symm) hd d3 d4 d5 d6 hout (by have : zSup.length = 2 := rfl; omega) hrl (by omega) (by omega) hlk hXC y9.2.2 (by omega) (by omega)
  · exact vx_throwSW hx hb hst hown hcls (by decide +kernel) (hts _ v1) (hts _ v2) hsa u1 hgood hMF.2.2.2.2.2.1 hMF.2.2.2.2.2.2.1 y9 (y6.2.1.trans hml.symm) hd d3 d4 d5 d6 hout (by have : zSup.length = 2 := rfl; omega) hrl (by omega) (by omega) hlk hXC y9.2.2 (by omega) (by omega)

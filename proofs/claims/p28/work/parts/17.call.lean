/-! ===== calls ===== -/
theorem Met_vx {l : Launch} {y : MethodName} {ws : List Cond} {rm : Room} {Pc : Array Value → State → Prop} {Qc : Array Value → State → Outcome → State → Prop} {XC : String → State → State → Prop} {mc ms : Nat} {free : Addr → Prop} (h : vx_Met l y ws rm Pc Qc XC mc ms free) (hn : ∀ E st t, ¬ XC E st t) : Met l y ws rm Pc Qc mc ms free := by
  intro p e h1 h2 h3 s m args below h4 h5 h6 h7
  obtain ⟨n, o, q1, q2, q3, q4⟩ := h p e h1 h2 h3 s m args below h4 h5 h6 h7
  refine ⟨n, o, q1, q2, q3, ?_⟩
  rcases q4 with q4 | ⟨q, -, E, ce, L, hx, -⟩
  · exact q4
  · exact absurd hx (hn _ _ _)
theorem run_vx {p : Program} {l : Launch} {e : Env} {R : Room} {s : State} {m : MethodId} {args : Array Value} {below : List Frame} {meth : Method} {c : Code} {H : Heap} {locs : List Loc} {cells slots mc ms : Nat} {g : JFrame} {rest : List Value} {Qa : State → Outcome → State → Prop} {XC : String → State → State → Prop} {free : Addr → Prop}
    (h : va_Run p l e R s m args below meth c H locs cells slots mc ms g rest Qa free) : vx_Run p l e R s m args below meth c H locs cells slots mc ms g rest Qa XC free := fun T hT X => by
  obtain ⟨v, st₀, t, T', L, h1, h2, h3, h4, h5, h6, h7⟩ := h T hT X
  exact Or.inl ⟨v, st₀, t, T', L, h1, h2, h3, h4, h5, h6, h7⟩
theorem hdl_split {c pc x h : Nat} : ∀ {hh : List (Nat × Nat × Nat × Nat)}, hdl c pc x hh = some h → ∃ (pre : List (Nat × Nat × Nat × Nat)) (a b t : Nat) (suf : List (Nat × Nat × Nat × Nat)), hh = pre ++ (a, b, h, t) :: suf ∧ (a ≤ pc ∧ pc < b) ∧ rThr c t = some x ∧ ∀ z ∈ pre, ¬ (z.1 ≤ pc ∧ pc < z.2.1) ∨ ∃ x', rThr c z.2.2.2 = some x' ∧ x' < x
  | [], h9 => by cases h9
  | (a, b, h', t) :: r, h9 => by
    unfold hdl at h9
    by_cases hc : a ≤ pc ∧ pc < b
    · rw [if_pos hc] at h9
      split at h9
      · rename_i x' hx'
        by_cases e : x' = x
        · rw [if_pos e] at h9
          cases h9
          subst e
          exact ⟨[], a, b, t, r, rfl, hc, hx', fun z hz => by cases hz⟩
        · rw [if_neg e] at h9
          by_cases e2 : x' < x
          · rw [if_pos e2] at h9
            obtain ⟨pre, a2, b2, t2, suf, q1, q2, q3, q4⟩ := hdl_split h9
            refine ⟨(a, b, h', t) :: pre, a2, b2, t2, suf, by rw [q1]; rfl, q2, q3, fun z hz => ?_⟩
            rcases List.mem_cons.mp hz with rfl | hz
            · exact Or.inr ⟨x', hx', e2⟩
            · exact q4 z hz
          · rw [if_neg e2] at h9
            cases h9
      · cases h9
    · rw [if_neg hc] at h9
      obtain ⟨pre, a2, b2, t2, suf, q1, q2, q3, q4⟩ := hdl_split h9
      refine ⟨(a, b, h', t) :: pre, a2, b2, t2, suf, by rw [q1]; rfl, q2, q3, fun z hz => ?_⟩
      rcases List.mem_cons.mp hz with rfl | hz
      · exact Or.inl hc
      · exact q4 z hz
theorem thr_ne0 : ∀ q ∈ rThrL, q.2.1 ≠ 0 ∧ 1 ≤ q.2.2 ∧ q.2.2 ≤ 3 := by decide +kernel
theorem nc_of {x x' : Nat} (h1 : 1 ≤ x') (h : x' < x) (h3 : x ≤ 3) : (zX x, zX x') ∈ zNc := by
  rcases (show (x = 2 ∧ x' = 1) ∨ (x = 3 ∧ x' = 1) ∨ (x = 3 ∧ x' = 2) by omega) with ⟨rfl, rfl⟩ | ⟨rfl, rfl⟩ | ⟨rfl, rfl⟩ <;> simp [zNc]
theorem cast_of {x : Nat} (h1 : 1 ≤ x) (h3 : x ≤ 3) : Cond.castable (zX x) (zX x) ∈ zBad := by
  have h : ∀ x, x < 4 → 1 ≤ x → Cond.castable (zX x) (zX x) ∈ zBad := by decide +kernel
  exact h x (by omega) h1
def rmD (d : Nat) (w w' : Wd) : Room := { frames := d + 7, cells := cn w' w, slots := sn w' w, locals := 60 * d + 90 }
def mw (M : Mt) : Cond := match mH M with
  | [] => .code (mY M) (mB M) (mL M) (mR M)
  | h :: r => .codeWith (mY M) (mB M) (mL M) (mR M) (h :: r)
def PreC (D : va_G) (cs : Cids) (al : Nat → Nat) (n : Nat) (σ : Hp) (sz : Nat) : State → Prop := fun U => U.heap.size = sz ∧ va_P D vwCl (wsv al cs σ n) U.heap ∧ va_D (zA al n sz) (wsv al cs σ n) ∧ MF D cs (zA al n sz) U U.heap
def Ctr (l : Launch) (d k : Nat) (as : List PV) (w : Wd) (o : Out) : Prop := ∀ M, mtab[k]? = some M → TyM w.1 w.2.1 w.2.2.2 → (∀ v ∈ as, PVok w.2.1 v) → ∀ (D : va_G) (cs : Cids) (al : Nat → Nat) (sz : Nat), vx_Met l (mY M) (wsG (mw M)) (rmD d w o.2.2) (va_Pc (as.map (vl al 0)) (PreC D cs al w.2.1 w.2.2.2 sz)) (CQ D cs al (zA al w.2.1 sz) w o) (CX D cs al (zA al w.2.1 sz) w o) (cn o.2.2 w) (sn o.2.2 w) (zA al w.2.1 sz)
theorem cn_trans {w0 w w' : Wd} (h1 : le w0 w) (h2 : le w w') : cn w w0 + cn w' w = cn w' w0 := by
  unfold cn
  have := cw_mono h1.1; have := h1.2; have := cw_mono h2.1; have := h2.2
  omega
theorem sn_trans {w0 w w' : Wd} (h1 : le w0 w) (h2 : le w w') : sn w w0 + sn w' w = sn w' w0 := by
  unfold sn
  have := SL_mono h1.1; have := h1.2; have := SL_mono h2.1; have := h2.2
  omega
/-- how it goes on behind a call that has been made -/
def Aft (Z : Act) (B : Bg) (pc : Nat) (L : Lc) (r : List PV) (o : Out) : Prop :=
  (o.1 = 0 ∧ GX Z B (pc + 3) L (o.2.1.toList ++ r) o.2.2) ∨ (o.1 ≠ 0 ∧ o.1 ≤ 3 ∧ ((mH B.1 = [] ∧ QQ Z B (o.1, none, o.2.2)) ∨ ∃ h i ln, hdl (mC B.1) pc o.1 (mH B.1) = some h ∧ (decode (mB B.1) h = .ok (.astore i, ln) ∧ ln = 2 ∨ ∃ q : Fin 4, decode (mB B.1) h = .ok (.astore_n q, ln) ∧ ln = 1 ∧ (q : Nat) = i) ∧ i < L.length ∧ GX Z B (h + ln) ((clr L i).set i none) [] o.2.2))
theorem s_cont {p : Program} {l : Launch} {e : Env} {R : Room} {s : State} {m : MethodId} {args : Array Value} {below : List Frame} {meth : Method} {c : Code} {D : va_G} {cs : Cids} {A : Nat → Prop} {Q : State → Prop} {M : Mt} {d : Nat} {w0 : Wd} {al0 : Nat → Nat} {wo : Wd} {X : Xs} {b : Nat}
    (hC : Cx (p, l, e, R, s, m, args, below, meth, c, D, cs, A, Q) (M, d, w0, al0, wo, X, b)) {pc : Nat} {L : Lc} {w : Wd} {st r : List PV} {o : Out} {al : Nat → Nat} {H : Heap} {locs : List Loc} {la : Array Slot} (hy : Hy (p, l, e, R, s, m, args, below, meth, c, D, cs, A, Q) (M, d, w0, al0, wo, X, b) al H locs la L st w)
    (hr0 : ∀ v ∈ r, PVok w.2.1 v) (hle : le w o.2.2) (hlo : le o.2.2 wo) {st0 : List Value} {aa : Array Value} (hr : vx_Run p l e R s m args below meth c H locs (cn w w0) (sn w w0) (cn o.2.2 w) (sn o.2.2 w) (F0 m pc la st0) (r.map (vl al b)) (CQ D cs al (zA al w.2.1 H.size) w o aa) (CX D cs al (zA al w.2.1 H.size) w o) (zA al w.2.1 H.size))
    (hk : Aft (p, l, e, R, s, m, args, below, meth, c, D, cs, A, Q) (M, d, w0, al0, wo, X, b) pc L r o) : W p l e R s m args below meth c H locs (cn w w0) (sn w w0) Q (F0 m pc la st0) := by
  obtain ⟨⟨hx, hb, hml, hown⟩, hts, hA, ⟨hlk, hst, hrt, hin, hex⟩, hMF, ⟨hR1, hR2, hR3, hR4⟩, hXs⟩ := hC
  obtain ⟨y1, y2, y3, y4, y5, y6, y7, y8, y9⟩ := id hy
  have hzA : ∀ q, zA al w.2.1 H.size q → A q := zA_mono (va_D_al y8) (fun q hq => hA q (Nat.le_trans y9.1 hq))
  have hc9 := cn_trans y1.1 hle
  have hs9 := sn_trans y1.1 hle
  have hl9 : le w0 o.2.2 := y1.1.trans hle
  intro T hT X'
  rcases hr T hT X' with ⟨v, st₀, t, T', L9, h0, X2, hL, e1, e2, hq, stp⟩ | ⟨q, st₀, t, T', L9, E, ce, h0, X2, hL, e1, e2, hq, hce, hcv, hcl, stp⟩
  · obtain ⟨o0, ⟨al', ha, hv, hP, hD⟩, hT2, hvo, hF⟩ := hq
    obtain ⟨k1, k2, k3⟩ := vx_keep h0 e1 y9 (fun q _ h => hzA q h) hzA hL hF
    rcases hk with ⟨-, K⟩ | ⟨hne, -⟩
    · have hs : ∀ u ∈ o.2.1.toList ++ r, PVok o.2.2.2.1 u := fun u hu => by
        rcases List.mem_append.mp hu with hu | hu
        · exact (hvo u (Option.mem_toList.mp hu)).1
        · exact (hr0 u hu).mono hle.1
      have hvst : (o.2.1.toList ++ r).map (vl al' b) = v.toList ++ r.map (vl al b) := by
        cases hv
        rw [List.map_append]
        congr 1
        · cases h7 : o.2.1 with
          | none => rfl
          | some u =>
            show [vl al' b u] = [vl al' 0 u]
            rw [vl_b (hvo u h7).2]
        · exact List.map_congr_left fun u hu => vl_congr ha (hr0 u hu)
      have KK := K al' T'.heap (locs ++ L9) la ⟨⟨hl9, hlo⟩, hT2, hs, fun i u hu => (y4 i u hu).mono hle.1, fun p hp => (ha p (hp.mono y1.1.1)).trans (y5 p hp), y6.congr ha y4, by rw [e1]; exact hP, ⟨hD.1, fun k q hq => hzA _ (hD.2 k q hq)⟩, k3⟩
      rw [← hc9, ← hs9, hvst] at KK
      obtain ⟨t2, a1, b1⟩ := KK T' rfl X2
      exact ⟨t2, stp t2 a1, b1⟩
    · exact absurd o0 hne
  · obtain ⟨⟨hne, hx3⟩, rfl, ⟨al', ha, hP, hD⟩, hT2, hF⟩ := hq
    obtain ⟨k1, k2, k3⟩ := vx_keep h0 e1 y9 (fun q _ h => hzA q h) hzA hL hF
    rcases hk with ⟨h, -⟩ | ⟨-, -, hk⟩
    · exact absurd h hne
    · have key : vx_W p l e R s m args below meth c T'.heap (locs ++ L9) (cn w w0 + cn o.2.2 w) (sn w w0 + sn o.2.2 w) Q (F0 m pc la (r.map (vl al b))) q := by
        rcases hk with ⟨hH, ho, rfl⟩ | ⟨h, i, ln, h1, h2, h3, K⟩
        · have hH : mH M = [] := hH
          have ho : wo = o.2.2 := ho
          subst ho
          rw [hc9, hs9]
          refine vx_out (fun x hx => by rw [hex, hH] at hx; cases hx) hlk (by rw [e1]; exact hce) hcv hcl (fun t' ht' _ => ?_) k3.2.2 (Nat.le_refl _) (Nat.le_refl _)
          refine ⟨⟨hne, hx3⟩, rfl, ⟨al', fun p hp => (ha p (hp.mono y1.1.1)).trans (y5 p hp), by rw [ht', e1]; exact hP, ⟨hD.1, fun k q hq => hzA _ (hD.2 k q hq)⟩⟩, hT2, k3.F ht'⟩
        · obtain ⟨pre, a, b', t', suf, q1, q2, q3, q4⟩ := hdl_split h1
          have hx1 : 1 ≤ o.1 := by omega
          have q1 : mH M = pre ++ (a, b', h, t') :: suf := q1
          have q3 : rThr (mC M) t' = some o.1 := q3
          refine vx_catch hown (pre.map fun q => ⟨q.1, q.2.1, q.2.2.1, q.2.2.2⟩) ⟨a, b', h, t'⟩ (suf.map fun q => ⟨q.1, q.2.1, q.2.2.1, q.2.2.2⟩) (by rw [hex, q1]; unfold tableOf; rw [List.map_append, List.map_cons]) (fun z hz => ?_) (by simp [covers, q2]) (thr_ne0 _ (find_mem q3)).1 (hts _ (thr_word q3).1) (va_Nw.use (cpd_tab rfl) (hMF.2.2.2.2.1 _ (cast_of hx1 hx3))) (by rw [e1]; exact hce) hcv hcl ?_
          · obtain ⟨z9, hz9, rfl⟩ := List.mem_map.mp hz
            rcases q4 z9 hz9 with h4 | ⟨x', h4, h5⟩
            · refine Or.inl ?_
              simp only [covers]
              simp
              omega
            · have h4 : rThr (mC M) z9.2.2.2 = some x' := h4
              have := thr_ne0 _ (find_mem h4)
              exact Or.inr ⟨this.1, zX x', hts _ (thr_word h4).1, hMF.2.2.2.1 _ (nc_of this.2.1 h5 hx3)⟩
          · have hi2 : i < mL M := by rw [← y6.1]; exact h3
            have fin : ∀ la2 : Array Slot, lv_has la2 (mL M) ((i, Value.ref q) :: (asc al b L).filter (fun q => !(q.1 == i) && !(q.1 + 1 == i && q.2.category == 2))) → W p l e R s m args below meth c T'.heap (locs ++ L9) (cn w w0 + cn o.2.2 w) (sn w w0 + sn o.2.2 w) Q (F0 m (h + ln) la2 []) := by
              intro la2 hl2
              have hget : ∀ (j : Nat) (u : PV), ((clr L i).set i none)[j]? = some (some u) → j ≠ i ∧ L[j]? = some (some u) ∧ ¬ (j + 1 = i ∧ u.1 = 1) := by
                intro j u hj
                rw [List.getElem?_set] at hj
                by_cases e9 : i = j
                · subst e9
                  rw [if_pos rfl] at hj
                  split at hj <;> cases hj
                · rw [if_neg e9] at hj
                  exact ⟨fun z => e9 z.symm, clr_get hj⟩
              have hLH : LH al b la2 (mL M) ((clr L i).set i none) := by
                refine ⟨by rw [List.length_set, clr_len]; exact y6.1, hl2.1, hl2.2.1, fun j u hj => ?_⟩
                obtain ⟨g1, g2, g3⟩ := hget j u hj
                refine hl2.2.2 (j, vl al b u) (List.mem_cons_of_mem _ (List.mem_filter.mpr ⟨asc_mem.mpr ⟨u, g2, rfl⟩, ?_⟩))
                have f1 : (j == i) = false := by simp [g1]
                have f2 : (j + 1 == i && (vl al b u).category == 2) = false := by
                  rw [vl_cat]
                  by_cases e : j + 1 = i
                  · have : ¬ u.1 = 1 := fun z => g3 ⟨e, z⟩
                    simp [catV, this]
                  · simp [e]
                simp [f1, f2]
              have hL4 : ∀ (j : Nat) (u : PV), ((clr L i).set i none)[j]? = some (some u) → PVok w.2.1 u := fun j u hj => y4 j u (hget j u hj).2.1
              have KK := K al' T'.heap (locs ++ L9) la2 ⟨⟨hl9, hlo⟩, hT2, (fun u hu => by cases hu), fun j u hu => (hL4 j u hu).mono hle.1, fun p hp => (ha p (hp.mono y1.1.1)).trans (y5 p hp), hLH.congr ha hL4, by rw [e1]; exact hP, ⟨hD.1, fun k q hq => hzA _ (hD.2 k q hq)⟩, k3⟩
              rw [← hc9, ← hs9] at KK
              exact KK
            rcases h2 with ⟨d1, rfl⟩ | ⟨q5, d1, rfl, rfl⟩
            · exact lv_astore hx hb d1 y6.has hi2 rfl fin
            · exact lv_astore_n hx hb d1 rfl y6.has hi2 rfl fin
      obtain ⟨t2, a1, b1⟩ := key T' rfl X2
      exact ⟨t2, stp.trans a1, b1⟩

/-! ===== the numbers' machine holds at the machine ===== -/
theorem mc_no3 : ∀ q ∈ rMthL, q.2.2.1 ≠ 3 := by decide +kernel
theorem mc_lt12 : (rMthL.all fun q => decide (10 ≤ q.2.2.1) || (decide (q.2.2.1 = 1) || (decide (q.2.2.1 = 4) || decide (mC (mtM q.2.2.2) < 11)))) = true := by decide +kernel
theorem mc_rcv (q : Nat × Nat × Nat × Nat) (hq : q ∈ rMthL) (h : q.2.2.1 = 0 ∨ q.2.2.1 = 2 ∨ q.2.2.1 = 5) {Mc : Mt} (hM : mtab[q.2.2.2]? = some Mc) : mC Mc < 11 := by
  have h1 := List.all_eq_true.mp mc_lt12 q hq
  rw [mtM_of hM] at h1
  simp only [Bool.or_eq_true, decide_eq_true_eq] at h1
  omega
theorem lsub_len : ∀ {L L0 : Lc}, lsub L L0 → L0.length = L.length
  | [], [], _ => rfl
  | _ :: _, _ :: _, h => congrArg (· + 1) (lsub_len h.2)
  | [], _ :: _, h => h.elim
  | _ :: _, [], h => h.elim
theorem lsub_get : ∀ {L L0 : Lc} {i : Nat} {v : PV}, lsub L L0 → L0[i]? = some (some v) → L[i]? = some (some v)
  | [], [], _, _, _, h => h
  | a :: as, b :: bs, 0, v, h, h2 => by
    have h2 : some b = some (some v) := h2
    rcases h.1 with h3 | h3
    · rw [h3] at h2; cases h2
    · show some a = some (some v)
      rw [← h3]; exact h2
  | a :: as, b :: bs, i + 1, v, h, h2 => lsub_get (L := as) (L0 := bs) h.2 h2
  | [], _ :: _, _, _, h, _ => h.elim
  | _ :: _, [], _, _, h, _ => h.elim
/-- what stands behind a call in stepP -/
def AftK (M : Mt) (K : Kr) (fin : Out → Prop) (kind pc : Nat) (L : Lc) (r : List PV) (o : Out) : Prop :=
  (o.1 = 0 ∧ K (pc + 3) L (o.2.1.toList ++ r) o.2.2) ∨ (o.1 ≠ 0 ∧ o.1 ≤ 3 ∧ kind < 2 ∧ ((hdl (mC M) pc o.1 (mH M) = none ∧ mH M = [] ∧ fin (o.1, none, o.2.2)) ∨ ∃ h i ln, hdl (mC M) pc o.1 (mH M) = some h ∧ (decode (mB M) h = .ok (.astore i, ln) ∧ ln = 2 ∨ ∃ q : Fin 4, decode (mB M) h = .ok (.astore_n q, ln) ∧ ln = 1 ∧ (q : Nat) = i) ∧ i < L.length ∧ K (h + ln) ((clr L i).set i none) [] o.2.2))
section SND
variable {Z : Act} {M : Mt} {d : Nat} {w0 : Wd} {al0 : Nat → Nat} {out : Out} {X : Xs} {b : Nat} {K : Kr}
theorem snd_le (hK : ∀ pc L st w, K pc L st w → le w out.2.2 ∧ GX Z (M, d, w0, al0, out.2.2, X, b) pc L st w) (_ : QQ Z (M, d, w0, al0, out.2.2, X, b) out) {kind pc : Nat} {L : Lc} {r : List PV} {o : Out} (hk : AftK M K (fun o => out = o) kind pc L r o) : le o.2.2 out.2.2 := by
  rcases hk with ⟨-, hk⟩ | ⟨-, -, -, (⟨-, -, hf⟩ | ⟨h, i, ln, -, -, -, hk⟩)⟩
  · exact (hK _ _ _ _ hk).1
  · rw [hf]; exact le.refl _
  · exact (hK _ _ _ _ hk).1
theorem snd_aft (hK : ∀ pc L st w, K pc L st w → le w out.2.2 ∧ GX Z (M, d, w0, al0, out.2.2, X, b) pc L st w) (hQ : QQ Z (M, d, w0, al0, out.2.2, X, b) out) {kind pc : Nat} {L : Lc} {r : List PV} {o : Out} (hk : AftK M K (fun o => out = o) kind pc L r o) : Aft Z (M, d, w0, al0, out.2.2, X, b) pc L r o := by
  rcases hk with ⟨h0, hk⟩ | ⟨hne, h3, -, (⟨-, hH, hf⟩ | ⟨h, i, ln, h4, h5, h6, hk⟩)⟩
  · exact Or.inl ⟨h0, (hK _ _ _ _ hk).2⟩
  · refine Or.inr ⟨hne, h3, Or.inl ⟨hH, ?_⟩⟩
    rw [← hf]
    exact hQ
  · exact Or.inr ⟨hne, h3, Or.inr ⟨h, i, ln, h4, h5, h6, (hK _ _ _ _ hk).2⟩⟩
theorem snd_o0 {fin : Out → Prop} {kind pc : Nat} {L : Lc} {r : List PV} {o : Out} (hk : AftK M K fin kind pc L r o) (h : 2 ≤ kind) : o.1 = 0 := by
  rcases hk with ⟨h0, -⟩ | ⟨-, -, h2, -⟩
  · exact h0
  · omega
set_option maxHeartbeats 4000000 in
theorem snd_step (hC : Cx Z (M, d, w0, al0, out.2.2, X, b)) (hQ : QQ Z (M, d, w0, al0, out.2.2, X, b) out) {E : Er} (hE : ∀ k as w o, E k as w o → Ctr Z.2.1 d k as w o) (hK : ∀ pc L st w, K pc L st w → le w out.2.2 ∧ GX Z (M, d, w0, al0, out.2.2, X, b) pc L st w) {i : Instr} {len pc : Nat} {L : Lc} {st : List PV} {w : Wd} (hd : decode (mB M) pc = .ok (i, len)) (h : stepP X E M i len K (fun o => out = o) pc L st w) : GX Z (M, d, w0, al0, out.2.2, X, b) pc L st w := by
  cases i with
  | iconst v =>
    obtain ⟨rfl, hr, hk⟩ := h
    exact s_iconst hC hd hr (hK _ _ _ _ hk).2
  | bipush v =>
    obtain ⟨rfl, hr, h8, hk⟩ := h
    exact s_bipush hC hd hr h8 (hK _ _ _ _ hk).2
  | sipush v =>
    obtain ⟨rfl, hr, h8, hk⟩ := h
    exact s_sipush hC hd hr h8 (hK _ _ _ _ hk).2
  | lconst v =>
    obtain ⟨rfl, hk⟩ := h
    exact s_lconst hC hd (hK _ _ _ _ hk).2
  | aconst_null =>
    obtain ⟨rfl, hk⟩ := h
    exact s_anull hC hd (hK _ _ _ _ hk).2
  | ldc idx =>
    obtain ⟨v, rfl, hr, hc, hk⟩ := h
    exact s_ldc hC hd hr hc (hK _ _ _ _ hk).2
  | ldc_w idx =>
    obtain ⟨v, rfl, hr, hc, hk⟩ := h
    exact s_ldcw hC hd hr hc (hK _ _ _ _ hk).2
  | ldc2_w idx =>
    obtain ⟨v, rfl, hr, hc, hk⟩ := h
    exact s_ldc2 hC hd hr hc (hK _ _ _ _ hk).2
  | iload_n k =>
    obtain ⟨x, rfl, hl, hk⟩ := h
    exact s_iload_n hC hd hl (hK _ _ _ _ hk).2
  | iload k =>
    obtain ⟨x, rfl, hl, hk⟩ := h
    exact s_iload hC hd hl (hK _ _ _ _ hk).2
  | istore_n k =>
    obtain ⟨x, r, rfl, rfl, hl, hk⟩ := h
    exact s_istore_n hC hd hl (hK _ _ _ _ hk).2
  | istore k =>
    obtain ⟨x, r, rfl, rfl, hl, hk⟩ := h
    exact s_istore hC hd hl (hK _ _ _ _ hk).2
  | lload_n k =>
    obtain ⟨x, rfl, hl, hk⟩ := h
    exact s_lload_n hC hd hl (hK _ _ _ _ hk).2
  | lload k =>
    obtain ⟨x, rfl, hl, hk⟩ := h
    exact s_lload hC hd hl (hK _ _ _ _ hk).2
  | lstore_n k =>
    obtain ⟨x, r, rfl, rfl, hl, hk⟩ := h
    exact s_lstore_n hC hd hl (hK _ _ _ _ hk).2
  | lstore k =>
    obtain ⟨x, r, rfl, rfl, hl, hk⟩ := h
    exact s_lstore hC hd hl (hK _ _ _ _ hk).2
  | aload_n k =>
    obtain ⟨v, rfl, hl, hv, hk⟩ := h
    exact s_aload_n hC hd hl hv (hK _ _ _ _ hk).2
  | aload k =>
    obtain ⟨v, rfl, hl, hv, hk⟩ := h
    exact s_aload hC hd hl hv (hK _ _ _ _ hk).2
  | astore_n k =>
    obtain ⟨v, r, rfl, rfl, hv, hl, hk⟩ := h
    exact s_astore_n hC hd hl hv (hK _ _ _ _ hk).2
  | astore k =>
    obtain ⟨v, r, rfl, rfl, hv, hl, hk⟩ := h
    exact s_astore hC hd hl hv (hK _ _ _ _ hk).2
  | iinc k dd =>
    obtain ⟨x, rfl, hl, hr, hk⟩ := h
    exact s_iinc hC hd hl hr (hK _ _ _ _ hk).2
  | getfield idx =>
    obtain ⟨k, j, P, v0, v, r, rfl, hf, rfl, hr, hg, hk⟩ := h
    exact s_get hC hd hf hr hg (hK _ _ _ _ hk).2
  | putfield idx =>
    obtain ⟨k, j, P, v0, v, x, r, rfl, hf, rfl, hr, hg, h4, hk⟩ := h
    exact s_put hC hd hf hr hg h4 (hK _ _ _ _ hk).2
  | iaload =>
    obtain ⟨i, v, r, rfl, rfl, h0, (⟨L', P, rfl, h1, hk⟩ | ⟨q, hX, rfl, h1, hk⟩)⟩ := h
    · exact s_iald hC hd h0 h1 (hK _ _ _ _ hk).2
    · exact s_sald hC hd h0 hX h1 (hK _ _ _ _ hk).2
  | aaload =>
    obtain ⟨i, L', P, r, rfl, h0, h1, (⟨rfl, hk⟩ | ⟨rfl, rfl, hk⟩)⟩ := h
    · exact s_fald hC hd h0 h1 (hK _ _ _ _ hk).2
    · exact s_rald hC hd h0 h1 (hK _ _ _ _ hk).2
  | arraylength =>
    obtain ⟨v, r, rfl, rfl, (⟨L', P, rfl, hr, hk⟩ | ⟨q, hX, rfl, hr, hk⟩)⟩ := h
    · exact s_alen hC hd hr (hK _ _ _ _ hk).2
    · exact s_slen hC hd hX hr (hK _ _ _ _ hk).2
  | laload =>
    obtain ⟨i, L', P, r, rfl, rfl, h0, h1, hk⟩ := h
    exact s_lald hC hd h0 h1 (hK _ _ _ _ hk).2
  | baload =>
    obtain ⟨i, L', P, r, rfl, rfl, h0, h1, hk⟩ := h
    exact s_zald hC hd h0 h1 (hK _ _ _ _ hk).2
  | iastore =>
    obtain ⟨x, i, L', P, r, rfl, rfl, h0, h1, hk⟩ := h
    exact s_iast hC hd h0 h1 (hK _ _ _ _ hk).2
  | lastore =>
    obtain ⟨x, i, L', P, r, rfl, rfl, h0, h1, hk⟩ := h
    exact s_last hC hd h0 h1 (hK _ _ _ _ hk).2
  | bastore =>
    obtain ⟨x, i, L', P, r, rfl, rfl, h0, h1, h2, h3, hk⟩ := h
    exact s_zast hC hd h0 h1 h2 h3 (hK _ _ _ _ hk).2
  | aastore =>
    obtain ⟨x, i, L', P, r, rfl, rfl, h0, h1, h2, hk⟩ := h
    exact s_fast hC hd h0 h1 h2 (hK _ _ _ _ hk).2
  | iadd =>
    obtain ⟨x, y, r, rfl, rfl, hr, hk⟩ := h
    exact s_iadd hC hd hr (hK _ _ _ _ hk).2
  | isub =>
    obtain ⟨x, y, r, rfl, rfl, hr, hk⟩ := h
    exact s_isub hC hd hr (hK _ _ _ _ hk).2
  | imul =>
    obtain ⟨x, y, r, rfl, rfl, hr, hk⟩ := h
    exact s_imul hC hd hr (hK _ _ _ _ hk).2
  | ladd =>
    obtain ⟨x, y, r, rfl, rfl, hr, hk⟩ := h
    exact s_ladd hC hd hr (hK _ _ _ _ hk).2
  | lsub =>
    obtain ⟨x, y, r, rfl, rfl, hr, hk⟩ := h
    exact s_lsub hC hd hr (hK _ _ _ _ hk).2
  | lmul =>
    obtain ⟨x, y, r, rfl, rfl, hr, hk⟩ := h
    exact s_lmul hC hd hr (hK _ _ _ _ hk).2
  | idiv =>
    obtain ⟨x, y, r, rfl, rfl, hp, hk⟩ := h
    exact s_idiv hC hd hp (hK _ _ _ _ hk).2
  | irem =>
    obtain ⟨x, y, r, rfl, rfl, hp, hk⟩ := h
    exact s_irem hC hd hp (hK _ _ _ _ hk).2
  | lrem =>
    obtain ⟨x, y, r, rfl, rfl, hp, hk⟩ := h
    exact s_lrem hC hd hp (hK _ _ _ _ hk).2
  | ldiv =>
    obtain ⟨x, y, r, rfl, rfl, hp, hr, hk⟩ := h
    exact s_ldiv hC hd hp hr (hK _ _ _ _ hk).2
  | iand =>
    obtain ⟨x, y, r, rfl, rfl, hk⟩ := h
    exact s_iand hC hd (hK _ _ _ _ hk).2
  | ior =>
    obtain ⟨x, y, r, rfl, rfl, hk⟩ := h
    exact s_ior hC hd (hK _ _ _ _ hk).2
  | ishl =>
    obtain ⟨x, y, r, rfl, rfl, hk⟩ := h
    exact s_ishl hC hd (hK _ _ _ _ hk).2
  | ishr =>
    obtain ⟨x, y, r, rfl, rfl, hk⟩ := h
    exact s_ishr hC hd (hK _ _ _ _ hk).2
  | iushr =>
    obtain ⟨x, y, r, rfl, rfl, hk⟩ := h
    exact s_iushr hC hd (hK _ _ _ _ hk).2
  | lcmp =>
    obtain ⟨x, y, r, rfl, rfl, hk⟩ := h
    exact s_lcmp hC hd (hK _ _ _ _ hk).2
  | lneg =>
    obtain ⟨x, r, rfl, rfl, hr, hk⟩ := h
    exact s_lneg hC hd hr (hK _ _ _ _ hk).2
  | i2l =>
    obtain ⟨x, r, rfl, rfl, hk⟩ := h
    exact s_i2l hC hd (hK _ _ _ _ hk).2
  | l2i =>
    obtain ⟨x, r, rfl, rfl, hr, hk⟩ := h
    exact s_l2i hC hd hr (hK _ _ _ _ hk).2
  | dup =>
    obtain ⟨v, r, rfl, rfl, hv, hk⟩ := h
    exact s_dup hC hd hv (hK _ _ _ _ hk).2
  | dup2 =>
    obtain ⟨v, u, r, rfl, rfl, hv, hu, hk⟩ := h
    exact s_dup2 hC hd hv hu (hK _ _ _ _ hk).2
  | pop =>
    obtain ⟨v, r, rfl, rfl, hv, hk⟩ := h
    exact s_pop hC hd hv (hK _ _ _ _ hk).2
  | ifCond o off =>
    obtain ⟨x, r, t, rfl, rfl, ht, k1, k2⟩ := h
    exact s_if hC hd ht (fun q => (hK _ _ _ _ (k1 q)).2) (fun q => (hK _ _ _ _ (k2 q)).2)
  | if_icmp o off =>
    obtain ⟨x, y, r, t, rfl, rfl, ht, k1, k2⟩ := h
    exact s_icmp hC hd ht (fun q => (hK _ _ _ _ (k1 q)).2) (fun q => (hK _ _ _ _ (k2 q)).2)
  | ifnonnull off =>
    obtain ⟨x, r, t, rfl, rfl, ht, k1, k2⟩ := h
    exact s_ifnn hC hd ht (fun q => (hK _ _ _ _ (k1 q)).2) (fun q => (hK _ _ _ _ (k2 q)).2)
  | goto off =>
    obtain ⟨t, rfl, ht, hk⟩ := h
    exact s_goto hC hd ht (hK _ _ _ _ hk).2
  | tableswitch dflt lo hi offs =>
    obtain ⟨x, r, off, t, rfl, h1, ht, hk⟩ := h
    exact s_table hC hd h1 ht (hK _ _ _ _ hk).2
  | newarray a =>
    rcases h with ⟨r, k, rfl, hm, hn, ha, h1, rfl, hl, hk⟩ | ⟨r, rfl, hm, rfl, rfl, hk⟩
    · exact s_newarr hC hd hm hn ha h1 hl (hK _ _ _ _ hk).1 (hK _ _ _ _ hk).2
    · exact s_newT hC hd hm (hK _ _ _ _ hk).1 (hK _ _ _ _ hk).2
  | anewarray idx =>
    obtain ⟨r, rfl, hm, hn, h0, hi, h1, hl, rfl, hk⟩ := h
    exact s_anew hC hd hm hn hi h1 hl (hK _ _ _ _ hk).1 (hK _ _ _ _ hk).2
  | multianewarray idx dims =>
    obtain ⟨r, rfl, rfl, rfl, h0, hm, hn, h1, h2, rfl, h3, hk⟩ := h
    exact s_multi hC hd h0 hm hn h1 h2 h3 (hK _ _ _ _ hk).1 (hK _ _ _ _ hk).2
  | new idx =>
    obtain ⟨rfl, (⟨x, is, ic, ln, h1, h10, hh, hs, d3, d4, d5, d6, hic, hstr, hf⟩ | ⟨hm, hi, h10, hs, d3, d4, h44, hk⟩ | ⟨k, hm, hn, hr, h1, h2, h3, hk⟩)⟩ := h
    · exact s_throw hC hd h1 h10 hh hs d3 d4 d5 d6 hic hstr (by rw [← hf]; exact hQ)
    · exact s_formula hC hd hm hi h10 hs d3 d4 h44 (hK _ _ _ _ hk).1 (hK _ _ _ _ hk).2
    · exact s_new hC hd hm hn hr h1 h2 h3 (hK _ _ _ _ hk).1 (hK _ _ _ _ hk).2
  | ireturn =>
    obtain ⟨x, rfl, rfl, h1, hf⟩ := h
    exact s_iret hC h1 hd (by rw [← hf]; exact hQ)
  | lreturn =>
    obtain ⟨x, rfl, rfl, h1, hf⟩ := h
    exact s_lret hC h1 hd (by rw [← hf]; exact hQ)
  | areturn =>
    obtain ⟨v, n, rfl, rfl, h2, h3, h1, hf⟩ := h
    exact s_aret hC h2 h3 h1 hd (by rw [← hf]; exact hQ)
  | return_ =>
    obtain ⟨rfl, rfl, h1, hf⟩ := h
    exact s_vret hC h1 hd (by rw [← hf]; exact hQ)
  | invokevirtual idx =>
    obtain ⟨rfl, kind, kc, hm, hks, (⟨h10, -⟩ | ⟨-, Mc, as, r, o, hMc, rfl, hlen, hns, hcs, hrc, hEo, hle, hk⟩)⟩ := h
    · simp at hks
      omega
    · have hk0 : kind = 0 := by
        have h3 := mc_no3 _ (find_mem hm)
        simp at hks
        rcases hks with h | h
        · exact h
        · exact absurd h h3
      subst hk0
      have hrc := hrc.resolve_left (by simp)
      exact s_callV hC hd hm hMc hlen hns hcs (mc_rcv _ (find_mem hm) (Or.inl rfl) hMc) hrc (hE _ _ _ _ hEo) hle (snd_le hK hQ hk) (snd_aft hK hQ hk)
  | invokestatic idx =>
    obtain ⟨rfl, (⟨kind, kc, hm, hks, (⟨h10, hn⟩ | ⟨h6, Mc, as, r, o, hMc, rfl, hlen, hns, hcs, hrc, hEo, hle, hk⟩)⟩ | ⟨q, k, r, hX, hf, rfl, hcs, hk0, hk1, hq, hk⟩)⟩ := h
    rotate_left 2
    · exact s_scr hC hd hX hf hcs hk0 hk1 hq (hK _ _ _ _ hk).1 (hK _ _ _ _ hk).2
    · have hk9 : kind = 10 ∨ kind = 11 ∨ kind = 12 ∨ kind = 13 ∨ kind = 14 ∨ kind = 15 := by simp at hks; omega
      have hl9 := mc_linkw hm (Or.inl h10)
      rw [if_pos h10] at hl9
      rcases hk9 with rfl | rfl | rfl | rfl | rfl | rfl
      · obtain ⟨x, y, r, rfl, hs, hk⟩ := hn
        exact s_imax hC hd hl9 hs (hK _ _ _ _ hk).2
      · obtain ⟨x, y, r, rfl, hs, hk⟩ := hn
        exact s_imin hC hd hl9 hs (hK _ _ _ _ hk).2
      · obtain ⟨x, y, r, rfl, hs, hk⟩ := hn
        exact s_lmax hC hd hl9 hs (hK _ _ _ _ hk).2
      · obtain ⟨x, y, r, rfl, hs, hk⟩ := hn
        exact s_lmin hC hd hl9 hs (hK _ _ _ _ hk).2
      · obtain ⟨x, r, rfl, hs, hr, hk⟩ := hn
        exact s_labs hC hd hl9 hs hr (hK _ _ _ _ hk).2
      · obtain ⟨n, dp, sp, L1, P1, L0, P0, r, rfl, hs, g1, g2, g3, g4, g5, hk⟩ := hn
        exact s_copy hC hd hl9 hs g1 g2 g3 g4 g5 (hK _ _ _ _ hk).2
    · have hk9 : kind = 1 ∨ kind = 4 := by simp at hks; omega
      rcases hk9 with rfl | rfl
      · exact s_callS hC hd hm hMc hlen hns hcs (hE _ _ _ _ hEo) hle (snd_le hK hQ hk) (snd_aft hK hQ hk)
      · exact s_callSN hC hd hm hMc hlen hns hcs (snd_o0 hk (by omega)) (hE _ _ _ _ hEo) hle (snd_le hK hQ hk) (snd_aft hK hQ hk)
  | invokespecial idx =>
    obtain ⟨rfl, kind, kc, hm, hks, (⟨h10, hn⟩ | ⟨h6, Mc, as, r, o, hMc, rfl, hlen, hns, hcs, hrc, hEo, hle, hk⟩)⟩ := h
    · have hk9 : kind = 16 := by simp at hks; omega
      subst hk9
      have hl9 := mc_linkw hm (Or.inl h10)
      rw [if_pos h10] at hl9
      obtain ⟨k, L0, P, r, rfl, hs, hk⟩ := hn
      exact s_obj hC hd hl9 hs (hK _ _ _ _ hk).2
    · have hk9 : kind = 2 ∨ kind = 5 := by simp at hks; omega
      rcases hk9 with rfl | rfl
      · exact s_callI hC hd hm hMc hlen hns hcs (mc_rcv _ (find_mem hm) (Or.inr (Or.inl rfl)) hMc) (hrc.resolve_left (by simp)) (snd_o0 hk (by omega)) (hE _ _ _ _ hEo) hle (snd_le hK hQ hk) (snd_aft hK hQ hk)
      · exact s_callIN hC hd hm hMc hlen hns hcs (mc_rcv _ (find_mem hm) (Or.inr (Or.inr rfl)) hMc) (hrc.resolve_left (by simp)) (snd_o0 hk (by omega)) (hE _ _ _ _ hEo) hle (snd_le hK hQ hk) (snd_aft hK hQ hk)
  | _ => exact (show False from h).elim
theorem TyM.switch {w : Wd} (hT : TyM false w.2.1 w.2.2.2) (hf : full w) : TyM true 171 w.2.2.2 := by
  obtain ⟨h0, h1⟩ := hf
  rw [h0] at hT
  have i1 : ∀ p, inn 171 p → inn 130 p ∧ p < 130 := fun p hp => by unfold inn at hp ⊢; omega
  have i2 : nle 130 171 := by unfold nle; omega
  refine ⟨fun _ => ⟨0, by omega⟩, (fun h => by cases h), fun p k j c o hs hz => ?_, fun p k L i hs hk => (hT.2.2.2.1 p k L i ⟨(i1 p hs.1).1, hs.2⟩ hk).mono i2, fun h => by cases h⟩
  have h2 := (hT.2.2.1 p k j c o ⟨(i1 p hs.1).1, hs.2⟩ hz).mono i2
  have h4 := zFld_c hz
  match c, h4, hz, h2 with
  | 0, _, _, h2 => exact h2
  | 1, _, _, h2 => exact h2
  | 2, _, _, h2 => exact h2
  | 3, _, _, h2 => exact h2
  | 4, _, hz, _ => exact Or.inl (h1 p (i1 p hs.1).2 j o (by rw [hs.2.1]; exact hz))
theorem ptrs_171 : ptrs 171 = ptrs 130 := by decide +kernel
theorem SL_171 : SL 171 = SL 130 := by decide +kernel
theorem snd_run (hC : Cx Z (M, d, w0, al0, out.2.2, X, b)) (hQ : QQ Z (M, d, w0, al0, out.2.2, X, b) out) {E : Er} (hE : ∀ k as w o, E k as w o → Ctr Z.2.1 d k as w o) : ∀ (f pc : Nat) (L : Lc) (st : List PV) (w : Wd), runB X E M f pc L st w out → le w out.2.2 ∧ GX Z (M, d, w0, al0, out.2.2, X, b) pc L st w
  | 0, _, _, _, _, h => h.elim
  | f + 1, pc, L, st, w, h => by
    obtain ⟨hle, (⟨i, len, hd, hs⟩ | ⟨hm, hf, hr⟩ | ⟨L0, hL, hr⟩)⟩ := h
    · exact ⟨hle, snd_step hC hQ hE (fun pc' L' st' w' h' => snd_run hC hQ hE f pc' L' st' w' h') hd hs⟩
    · refine ⟨hle, ?_⟩
      obtain ⟨hle2, hg⟩ := snd_run hC hQ hE f pc L st (true, 171, w.2.2) hr
      obtain ⟨p, l, e, R, s, m, args, below, meth, c, D, cs, A, Q⟩ := Z
      intro al H locs la hy
      obtain ⟨y1, y2, y3, y4, y5, y6, y7, y8, y9⟩ := id hy
      rw [hm] at y2
      have h130 : w.2.1 = 130 := hf.1
      have i2 : nle w.2.1 171 := by rw [h130]; unfold nle; omega
      have hw : wsv al cs w.2.2.2 w.2.1 = wsv al cs w.2.2.2 171 := by unfold wsv; rw [h130, ptrs_171]
      have hg9 := hg al H locs la ⟨⟨⟨y1.1.1.trans i2, y1.1.2⟩, hle2⟩, y2.switch hf, fun v hv => (y3 v hv).mono i2, fun i v hv => (y4 i v hv).mono i2, y5, y6, by rw [← hw]; exact y7, by rw [← hw]; exact y8, y9⟩
      have e1 : cn (true, 171, w.2.2) w0 = cn w w0 := by
        refine (cn_add (w := w) (k := 0) y1.1 ?_).trans (Nat.add_zero _)
        rw [h130]; rfl
      have e2 : sn (true, 171, w.2.2) w0 = sn w w0 := by
        refine (sn_add (w := w) (k := 0) y1.1 ?_).trans (Nat.add_zero _)
        rw [h130, Nat.add_zero, SL_171]
      rw [e1, e2] at hg9
      exact hg9
    · refine ⟨hle, ?_⟩
      have hg := (snd_run hC hQ hE f pc L0 st w hr).2
      obtain ⟨p, l, e, R, s, m, args, below, meth, c, D, cs, A, Q⟩ := Z
      intro al H locs la hy
      obtain ⟨y1, y2, y3, y4, y5, y6, y7, y8, y9⟩ := id hy
      exact hg al H locs la ⟨y1, y2, y3, fun i v hv => y4 i v (lsub_get hL hv), y5, ⟨(lsub_len hL).trans y6.1, y6.2.1, y6.2.2.1, fun i v hv => y6.2.2.2 i v (lsub_get hL hv)⟩, y7, y8, y9⟩
end SND

/-! ===== the claim, out of the law's walk: words of the kit's skeleton; whole_start is ours ===== -/
def R_law : String := "CubecallerLaw"
def lw_P (b : Addr) (xs : List Int32) (args : Array Value) (s : State) : Prop := args = #[.ref b] ∧ s.IntsAt b xs ∧ xs.length ≤ 260 ∧ (Jvm.Cond.and given_1 narrow_1).before args s = true
def lw_Q (_ : Array Value) (s : State) (o : Outcome) (t : State) : Prop := o = .returned (some (.int 1)) ∧ Framed s o t [] 600074 7301550
def lw_Z (below : List Frame) (a : Array Value) (s : State) : State → Prop := fun t => ∃ o, t.status = .running ∧ Ended t below o ∧ lw_Q a s o t
/-- what holds at the law's entry: the machine, the code, the tables' words (any of lw_tbl by 'hts w (by decide +kernel)'), the script of L ints xs at the cell b, what the Statement gives of the start (any of its parts by flat_of_before) -/
def lw_At (p : Program) (s : State) (m : MethodId) (meth : Method) (c : Code) (b L : Nat) (xs : Nat → Int32) : Prop :=
  p.tables.exec = Jvm.exec ∧ c.code = code ∧ meth.sig.returnType = ret ∧ c.maxLocals = 8 ∧ s.vm.findClass R_law = some m.cls ∧ (∀ w ∈ lw_tbl, w.before #[Value.ref b] s = true) ∧ va_X b L xs s s.heap ∧ b < s.heap.size ∧ meth.locks = false ∧ (Jvm.Cond.and given_1 narrow_1).before #[Value.ref b] s = true ∧ c.exceptionTable.toList = []
theorem whole_start {p : Program} {e : Env} {s : State} {m : MethodId} {below : List Frame} {meth : Method} {c : Code} (l : Launch) (hflags : l.flags = flags0) {b L : Nat} {xs : Nat → Int32} (hL : L ≤ 260) (C0 : lw_At p s m meth c b L xs) : W p l e room_1 s m #[Value.ref b] below meth c s.heap [] 0 0 (lw_Z below #[Value.ref b] s) (entryFrame m ([Value.ref b] : List Value).toArray 8) := by
  obtain ⟨hx, hb, hr, hml, hown, hts, hX, hbl, hlocks, hgv, hexc⟩ := C0
  have hl : l.stackTraces = false := by unfold Launch.stackTraces; rw [hflags]; decide +kernel
  obtain ⟨D, cs, hMF⟩ := bz_MF hts hgv
  obtain ⟨n, e9, σ, hr1, hn, hn2, he⟩ := law_true (q := (L, xs)) (show L < 2147483648 by omega)
  obtain ⟨f, hrun⟩ := l_start (L, xs) 0 (1, n, e9, σ) hr1
  have hSl : SL n ≤ 1000000 + 60 * 72 := by
    unfold SL
    have := Nat.le_trans (Sl_mono hn) bz_Sl
    omega
  have hcw : cw n ≤ 315 + 72 := by
    unfold cw
    split <;> (try split) <;> omega
  have hC : Cx (p, l, e, room_1, s, m, #[Value.ref b], below, meth, c, D, cs, (fun q : Nat => s.heap.size ≤ q), vx_MQ below (CQ D cs (fun _ => 0) (fun q : Nat => s.heap.size ≤ q) (false, 0, 0, fun _ _ => 0) (0, some (pvI 1), true, n, e9, σ)) (CX D cs (fun _ => 0) (fun q : Nat => s.heap.size ≤ q) (false, 0, 0, fun _ _ => 0) (0, some (pvI 1), true, n, e9, σ)) #[Value.ref b] s (cn (true, n, e9, σ) (false, 0, 0, fun _ _ => 0)) (sn (true, n, e9, σ) (false, 0, 0, fun _ _ => 0)) (fun q : Nat => s.heap.size ≤ q)) (mt163, 244, (false, 0, 0, fun _ _ => 0), (fun _ => 0), (true, n, e9, σ), some (L, xs), b) := by
    refine ⟨⟨hx, hb, hml, hown⟩, fun w hw => hts w (List.mem_filter.mp hw).1, fun q hq => hq, ⟨hlocks, hl, hr.trans rfl, fun h => absurd h (by decide), hexc⟩, hMF, ⟨?_, ?_, ?_, ?_⟩, fun q hq => by cases hq; exact ⟨hX, hbl, Nat.not_le.mpr hbl⟩⟩
    · show 244 + 8 ≤ 2048; omega
    · show 60 * 244 + 150 ≤ 84000; omega
    · show (cw n + e9) - (cw 0 + 0) ≤ 600074; omega
    · show (SL n + 6 * e9) - (SL 0 + 6 * 0) ≤ 7301550; omega
  have hg := (snd_run (out := (0, some (pvI 1), true, n, e9, σ)) hC ⟨rfl, rfl⟩ (fun k as w o h => snd_Ev hl 244 k as w o h) f 0 _ [] _ hrun).2
  have hT : TyM false 0 (fun _ _ => 0) := ⟨(fun h => by cases h), fun _ => ⟨Nat.zero_le _, fun p hp => absurd hp (Nat.not_lt_zero p)⟩, fun p k j c o h => absurd h.1 (inn_0 p), fun p k L i h => absurd h.1 (inn_0 p), fun _ p k j o h => absurd h.1 (inn_0 p)⟩
  have hP : va_P D vwCl (wsv (fun _ => 0) cs (fun _ _ => 0) 0) s.heap := wsv_P.mpr (fun p hp => absurd hp (inn_0 p))
  have hD : va_D (fun q : Nat => s.heap.size ≤ q) (wsv (fun _ => 0) cs (fun _ _ => 0) 0) := wsv_D.mpr ⟨fun p q hp => absurd hp (inn_0 p), fun p hp => absurd hp (inn_0 p)⟩
  have hent : (ent 8 [pvS]).length = 8 := rfl
  have hW := hg (fun _ => 0) s.heap [] ((lg_sl ([pvS].map (vl (fun _ => 0) b)) ++ List.replicate (8 - (lg_sl ([pvS].map (vl (fun _ => 0) b))).length) Slot.unset).toArray) ⟨⟨le.refl _, ⟨⟨Nat.zero_le _, Nat.zero_le _⟩, Nat.zero_le _⟩⟩, hT, (fun v hv => by cases hv), (fun i v hv => by
    match i, hv with
    | 0, hv => cases hv; exact trivial
    | 1, hv => cases hv
    | 2, hv => cases hv
    | 3, hv => cases hv
    | 4, hv => cases hv
    | 5, hv => cases hv
    | 6, hv => cases hv
    | 7, hv => cases hv
    | i + 8, hv => cases hv), (fun _ _ => rfl), LH_ent hent, hP, hD, va_S.rf⟩
  rw [cn_self, sn_self] at hW
  rw [lg_entry_eq]
  intro T hT2 X
  obtain ⟨t, a, o, o1, o2, o3⟩ := hW T hT2 X
  refine ⟨t, a, o, o1, o2, ?_⟩
  rcases o3 with ⟨⟨c1, ⟨al, c2, c3, c4, c5⟩, c6⟩, L9, ⟨f1, f2, f3⟩, f4⟩ | ⟨q, q1, E, ce, L9, ⟨⟨x1, x2⟩, x3⟩, x4⟩
  · have hv : vl al 0 (pvI 1) = Value.int 1 := rfl
    refine ⟨c3.trans (congrArg (fun z => Outcome.returned (some z)) hv), f1, f2, ?_⟩
    refine State.sameButNew.mono (State.sameButNew.drop_fresh (L := []) (J := L9) f3 (fun z hz => f4 z hz)) ?_ ?_
    · show (cw n + e9) - (cw 0 + 0) ≤ 600074; omega
    · show (SL n + 6 * e9) - (SL 0 + 6 * 0) ≤ 7301550; omega
  · exact absurd rfl x1

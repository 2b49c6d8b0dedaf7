/-! ===== the law from its entry ===== -/
theorem bz_inst : ∀ (k : Nat) (q : vw_C), vwCl[k]? = some q → Cond.instantiable q.1 q.2.2 ∈ lw_tbl := by
  intro k q h
  have hall : (vwCl.all fun q => decide (Cond.instantiable q.1 q.2.2 ∈ lw_tbl)) = true := by decide +kernel
  exact of_decide_eq_true (List.all_eq_true.mp hall q (List.mem_of_getElem? h))
theorem bz_nest : ∀ q ∈ zNest, Cond.methodLinkNest q.1 q.2.1 q.2.2.1 q.2.2.2 ∈ lw_tbl := by
  have hall : (zNest.all fun q => decide (Cond.methodLinkNest q.1 q.2.1 q.2.2.1 q.2.2.2 ∈ lw_tbl)) = true := by decide +kernel
  exact fun q hq => of_decide_eq_true (List.all_eq_true.mp hall q hq)
theorem bz_str : ∀ q ∈ zStr, Cond.stringRef q.1 q.2.1 q.2.2 ∈ lw_tbl ∧ q.1 = "Cubecaller" := by
  have hall : (zStr.all fun q => decide (Cond.stringRef q.1 q.2.1 q.2.2 ∈ lw_tbl ∧ q.1 = "Cubecaller")) = true := by decide +kernel
  exact fun q hq => of_decide_eq_true (List.all_eq_true.mp hall q hq)
theorem bz_bad : ∀ w ∈ zBad, w ∈ lw_tbl := by
  have hall : (zBad.all fun w => decide (w ∈ lw_tbl)) = true := by decide +kernel
  exact fun w hw => of_decide_eq_true (List.all_eq_true.mp hall w hw)
theorem bz_nc {args : Array Value} {s : State} (h : (Jvm.Cond.and given_1 narrow_1).before args s = true) : ∀ q ∈ zNc, va_Nc q.1 q.2 s := by
  have hs := flat_of_before _ h
  intro q hq
  have hq2 : q = (zX 2, zX 1) ∨ q = (zX 3, zX 1) ∨ q = (zX 3, zX 2) := by simpa [zNc] using hq
  rcases hq2 with rfl | rfl | rfl
  · exact va_Nc.of (hs (Cond.not (.castable (zX 2) (zX 1))) (by decide +kernel))
  · exact va_Nc.of (hs (Cond.not (.castable (zX 3) (zX 1))) (by decide +kernel))
  · exact va_Nc.of (hs (Cond.not (.castable (zX 3) (zX 2))) (by decide +kernel))
/-- the classes and arrays, as the tables have them -/
theorem bz_K {args : Array Value} {s : State} (hts : ∀ w ∈ lw_tbl, w.before args s = true) : ∃ (D : va_G) (cs : Cids), va_K D vwCl (ztys cs) s := by
  have hg : ∀ w ∈ lw_good, w.before args s = true := fun w hw => hts w (List.mem_filter.mp hw).1
  have one : ∀ (k : Nat) (q : vw_C), vwCl[k]? = some q → ∃ (c : ClassId) (i : Nat → Nat), u_Kn s q.1 q.2.1 q.2.2 c i := fun k q h => u_known hg (cls_in h) (hts _ (bz_inst k q h))
  obtain ⟨c0, i0, -⟩ := one 0 _ rfl
  have all : ∀ k : Nat, ∃ (c : ClassId) (i : Nat → Nat), ∀ q : vw_C, vwCl[k]? = some q → u_Kn s q.1 q.2.1 q.2.2 c i := fun k => by
    cases hk : vwCl[k]? with
    | none => exact ⟨c0, i0, fun q hq => by cases hq⟩
    | some q0 =>
      obtain ⟨c, i, h⟩ := one k q0 hk
      exact ⟨c, i, fun q hq => by cases hq; exact h⟩
  have hA : ∀ t : FieldType, Cond.arrayClass t ∈ lw_tbl → ∃ (c : ClassId) (k : Class) (comp : ClassId), s.vm.findClass ("[" ++ t.toString) = some c ∧ s.vm.classes[c]? = some k ∧ k.kind = .array comp t := fun t ht => Cond.arrayClass_spec (show (Cond.arrayClass t).holds args s none s [] = true from hts _ ht)
  obtain ⟨a1, k1, p1, f1, g1, e1⟩ := hA .int (by decide +kernel)
  obtain ⟨a2, k2, p2, f2, g2, e2⟩ := hA .long (by decide +kernel)
  obtain ⟨a3, k3, p3, f3, g3, e3⟩ := hA .boolean (by decide +kernel)
  obtain ⟨p4, a4, k4, f4, -, g4, e4, n4⟩ := Cond.arrayOver_spec (show (Cond.arrayOver (.object RX2)).holds args s none s [] = true from hts _ (by decide +kernel))
  obtain ⟨p5, a5, k5, f5, g5, e5, n5⟩ := Cond.arrayOver_specA (show (Cond.arrayOver (.array .int)).holds args s none s [] = true from hts _ (by decide +kernel))
  refine ⟨(fun k => Classical.choose (all k), fun k => Classical.choose (Classical.choose_spec (all k))), (a1, a2, a3, a4, a5), fun k q hq => Classical.choose_spec (Classical.choose_spec (all k)) q hq, fun k q hq => ?_⟩
  match k, hq with
  | 0, hq => cases hq; exact ⟨fun _ _ => ⟨(fun _ h => by cases h), k1, g1, p1, e1⟩, f1⟩
  | 1, hq => cases hq; exact ⟨fun _ _ => ⟨(fun _ h => by cases h), k2, g2, p2, e2⟩, f2⟩
  | 2, hq => cases hq; exact ⟨fun _ _ => ⟨(fun _ h => by cases h), k3, g3, p3, e3⟩, f3⟩
  | 3, hq => cases hq; exact ⟨fun _ _ => ⟨(fun _ h => by cases h), k4, g4, p4, e4⟩, k4, p4, g4, e4, f4, n4⟩
  | 4, hq => cases hq; exact ⟨fun _ _ => ⟨(fun _ h => by cases h), k5, g5, p5, e5⟩, n5⟩
  | k + 5, hq => simp [ztys] at hq
theorem bz_MF {args : Array Value} {s : State} (hts : ∀ w ∈ lw_tbl, w.before args s = true) (hgv : (Jvm.Cond.and given_1 narrow_1).before args s = true) : ∃ (D : va_G) (cs : Cids), MF D cs (fun q => s.heap.size ≤ q) s s.heap := by
  obtain ⟨D, cs, hK⟩ := bz_K hts
  have hs := flat_of_before _ hgv
  have hno : ∀ a : Nat, a < s.heap.size → ¬ (fun q : Nat => s.heap.size ≤ q) a := fun a ha h => absurd ha (Nat.not_lt.mpr h)
  have hcur : s.vm.findClass "Cubecaller" = some (D.1 10) := (hK.1 10 _ rfl).2.1
  refine ⟨D, cs, hK, fun q hq => va_Nw.of rfl (hts _ (bz_nest q hq)), fun q hq => ?_, bz_nc hgv, fun w hw => va_Nw.of (cpd_tab (List.all_eq_true.mp zBad_ok w hw)) (hts _ (bz_bad w hw)), ?_, ?_, va_AO.of (hts _ (by decide +kernel)), ?_⟩
  · obtain ⟨m1, m2⟩ := bz_str q hq
    have h1 := hts _ m1
    obtain ⟨k, cf, i, a, -, -, -, -, -, h6⟩ := Cond.stringRef_spec (args := args) (first := s) (o := none) (idx := []) (cls := q.1) (by rw [m2]; exact hcur) (show (Cond.stringRef q.1 q.2.1 q.2.2).holds args s none s [] = true from h1)
    exact ⟨a, vk_R.of h1 h6⟩
  · exact vx_Zqof (hts _ (by decide +kernel)) (hts _ (by decide +kernel)) (hs _ (by decide +kernel)) hno
  · exact vx_Zqof (hts _ (by decide +kernel)) (hts _ (by decide +kernel)) (hs _ (by decide +kernel)) hno
  · exact (show (Cond.arrayOver (.array .int)).before args s = true from hts _ (by decide +kernel))
/-- how many slots -/
theorem bz_Sl : Sl 315 ≤ 1000000 := by decide +kernel
theorem inn_0 (p : Nat) : ¬ inn 0 p := by unfold inn; omega

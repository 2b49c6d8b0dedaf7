section
variable {σ : Hp} {a a' b : Ab} {n : Nat} {B : Int} {e : Nat} {d o : Int}
/-- the class's rows of dimension d' then -/
def caR (σ u : Hp) (a : Ab) (d o d' : Int) : Prop := (u (dP d') 0 = (if d' = d then a.many d + 1 else a.many d') ∧ u (dP d') 1 = σ (dP d') 1 ∧ u (dP d') 2 = σ (dP d') 2) ∧ (∀ q : Nat, (dP d' + 1 ≤ q ∧ q ≤ dP d' + 4) ∨ (dP d' + 6 ≤ q ∧ q ≤ dP d' + 8) ∨ q = dP d' + 10 ∨ (dP d' + 12 ≤ q ∧ q ≤ dP d' + 14) ∨ (dP d' + 16 ≤ q ∧ q ≤ dP d' + 29) → u q = σ q) ∧ (∀ m : Int, ¬ (d' = d ∧ m = a.many d) → u (dP d' + 5) m = σ (dP d' + 5) m ∧ u (dP d' + 9) m = σ (dP d' + 9) m ∧ u (dP d' + 15) m = σ (dP d' + 15) m) ∧ (d' = d → u (dP d' + 5) (a.many d) = 2 ∧ u (dP d' + 9) (a.many d) = o ∧ u (dP d' + 15) (a.many d) = 1)
theorem ca_ICD (W : WFA a) (C : caC a d o) {u : Hp} {d' : Int} (hd' : inD d') (H : ICD σ a (dP d') d') (Q : caR σ u a d o d') : ICD u (caA a d o) (dP d') d' := by
  obtain ⟨⟨q0, q1, q2⟩, gq, gm, gn⟩ := Q
  have hd := C.1
  have hm := C.2.1
  have N := ca_B (a := a) (d := d) (o := o)
  have S := ca_S (a := a) (d := d) (o := o)
  have h132 : Ab.par (caA a d o) = a.par := ca_q (by omega)
  have h133 : Ab.sign (caA a d o) = a.sign := ca_q (by omega)
  have h134 : Ab.set (caA a d o) = a.set := ca_q (by omega)
  have h136 : Ab.hid (caA a d o) = a.hid := ca_q (by omega)
  have h141 : Ab.vd (caA a d o) = a.vd := ca_q (by omega)
  have h142 : Ab.vm (caA a d o) = a.vm := ca_q (by omega)
  have h143 : Ab.vp (caA a d o) = a.vp := ca_q (by omega)
  have h144 : Ab.vt (caA a d o) = a.vt := ca_q (by omega)
  have h145 : Ab.place (caA a d o) = a.place := ca_q (by omega)
  have hmv : Ab.moves (caA a d o) = a.moves := ca_j (by omega)
  have old : ∀ {d1 m : Int}, inD d1 → thr (caA a d o) d1 m → ¬ (d1 = d ∧ m = a.many d) → thr a d1 m ∧ Ab.kind (caA a d o) (12 * d1 + m) = a.kind (12 * d1 + m) := fun {d1 m} h1 ht g => by
    have k12 := nw_lt W hd hm N h1 ht
    exact ⟨(nw_t N g).mp ht, by rw [ca_kind, if_neg (nw_ne W hd hm h1 k12.1 k12.2 g)]⟩
  have ol2 : ∀ {d1 m : Int}, inD d1 → thr (caA a d o) d1 m → Ab.kind (caA a d o) (12 * d1 + m) ≠ 2 → ¬ (d1 = d ∧ m = a.many d) := fun {d1 m} h1 ht hk g => hk (by rw [ca_kind, g.1, g.2, if_pos rfl])
  have pl : ∀ {d1 m : Int}, inD d1 → thr (caA a d o) d1 m → isP (caA a d o) d1 m → thr a d1 m ∧ isP a d1 m ∧ ¬ (d1 = d ∧ m = a.many d) := fun {d1 m} h1 ht hp => by
    have hp' : Ab.kind (caA a d o) (12 * d1 + m) = 0 := hp
    have g := ol2 h1 ht (by omega)
    have := old h1 ht g
    exact ⟨this.1, this.2.symm.trans hp', g⟩
  intro k
  match k with
  | 0 => show u (dP d') 0 = Ab.many (caA a d o) d'; rw [q0, ca_many]
  | 1 => show u (dP d') 1 = Ab.chos (caA a d o) d'; rw [q1, show Ab.chos (caA a d o) = a.chos from ca_q (by omega)]; exact H 1
  | 2 =>
    show u (dP d') 2 = Ab.picks (caA a d o) d' ∧ ∀ i : Int, 0 ≤ i → i < Ab.picks (caA a d o) d' → u (dP d' + 12) i = Ab.pick (caA a d o) (12 * d' + i)
    rw [q2, gq (dP d' + 12) (by omega), show Ab.picks (caA a d o) = a.picks from ca_q (by omega), show Ab.pick (caA a d o) = a.pick from ca_q (by omega)]; exact H 2
  | 3 =>
    intro m ht
    by_cases g : d' = d ∧ m = a.many d
    · obtain ⟨rfl, rfl⟩ := g
      rw [(gn rfl).1, ca_kind, if_pos rfl]
    · have := old hd' ht g
      rw [(gm m g).1, this.2]
      exact (show ∀ m : Int, thr a d' m → σ (dP d' + 5) m = a.kind (12 * d' + m) from H 3) m this.1
  | 4 =>
    intro m ht hp m0
    have := pl hd' ht hp
    rw [h132, h133, gq (dP d' + 6) (by omega), gq (dP d' + 7) (by omega)]
    exact (show ∀ m : Int, thr a d' m → isP a d' m → 0 < m → σ (dP d' + 6) m = a.par (12 * d' + m) ∧ σ (dP d' + 7) m = a.sign (12 * d' + m) from H 4) m this.1 this.2.1 m0
  | 5 =>
    intro m ht hk
    have g := ol2 hd' ht (by omega)
    have := old hd' ht g
    rw [h134, gq (dP d' + 8) (by omega)]
    exact (show ∀ m : Int, thr a d' m → a.kind (12 * d' + m) = 1 → σ (dP d' + 8) m = a.set (12 * d' + m) from H 5) m this.1 (by rw [← this.2]; exact hk)
  | 6 =>
    intro m ht hk
    by_cases g : d' = d ∧ m = a.many d
    · obtain ⟨rfl, rfl⟩ := g
      rw [(gn rfl).2.1, ca_order, if_pos rfl]
    · have := old hd' ht g
      have k12 := nw_lt W hd hm N hd' ht
      rw [(gm m g).2.1, ca_order, if_neg (nw_ne W hd hm hd' k12.1 k12.2 g)]
      exact (show ∀ m : Int, thr a d' m → a.kind (12 * d' + m) = 2 → σ (dP d' + 9) m = a.order (12 * d' + m) from H 6) m this.1 (by rw [← this.2]; exact hk)
  | 7 =>
    intro m m0 m1
    rw [h136, gq (dP d' + 10) (by omega)]
    exact (show ∀ m : Int, 0 ≤ m → m < 12 → σ (dP d' + 10) m = a.hid (12 * d' + m) from H 7) m m0 m1
  | 8 =>
    intro m ht hp
    have := pl hd' ht hp
    rw [gq (dP d' + 13) (by omega), now_c S]
    exact (show ∀ m : Int, thr a d' m → isP a d' m → σ (dP d' + 13) m = if m = 0 then -1 else now a d' m from H 8) m this.1 this.2.1
  | 9 =>
    intro m ht hp
    have := pl hd' ht hp
    rw [gq (dP d' + 14) (by omega), dep_c S]
    exact (show ∀ m : Int, thr a d' m → isP a d' m → σ (dP d' + 14) m = dep a d' m from H 9) m this.1 this.2.1
  | 10 =>
    intro m ht
    by_cases g : d' = d ∧ m = a.many d
    · obtain ⟨rfl, rfl⟩ := g
      have ek : Ab.kind (caA a d' o) (12 * d' + a.many d') = 2 := by rw [ca_kind, if_pos rfl]
      rw [(gn rfl).2.2, bI_t ⟨fun h => by omega, fun h => by omega⟩]
    · have := old hd' ht g
      rw [(gm m g).2.2, bI_iff (seeP_c S (ca_q (by omega)) (ca_q (by omega)) this.2)]
      exact (show ∀ m : Int, thr a d' m → σ (dP d' + 15) m = bI (seeP a d' m) from H 10) m this.1
  | 11 =>
    intro m o' ht ho hp hk
    have h1 := pl hd' ht hp
    have h2 := old hd' ho (ol2 hd' ho hk)
    rw [gq (dP d' + 29) (by omega), wgt_c S (ca_q (by omega)) (ca_q (by omega)) h2.2]
    exact (show ∀ m o : Int, thr a d' m → thr a d' o → isP a d' m → a.kind (12 * d' + o) ≠ 2 → σ (dP d' + 29) (12 * m + o) = wgt a d' m o 99 from H 11) m o' h1.1 h2.1 h1.2.1 (by rw [← h2.2]; exact hk)
  | 12 =>
    intro t htt htp m o' ht ho hp hk
    have h0 := pl iD0 htt htp
    have h1 := pl hd' ht hp
    have h2 := old hd' ho (ol2 hd' ho hk)
    have t12 := thr12 W iD0 h0.1
    rw [gq (dP d' + 17 + t.toNat) (by omega), wgt_c S (ca_q (by omega)) (ca_q (by omega)) h2.2, h145]
    exact (show ∀ t : Int, thr a 0 t → isP a 0 t → ∀ m o : Int, thr a d' m → thr a d' o → isP a d' m → a.kind (12 * d' + o) ≠ 2 → σ (dP d' + 17 + t.toNat) (12 * m + o) = wgt a d' m o (a.place t) from H 12) t h0.1 h0.2.1 m o' h1.1 h2.1 h1.2.1 (by rw [← h2.2]; exact hk)
  | 13 =>
    show u (dP d' + 1) 0 = nmv (caA a d o) d' (Ab.moves (caA a d o)).toNat ∧ ∀ k : Nat, (k : Int) < Ab.moves (caA a d o) → Ab.vd (caA a d o) k = d' → u (dP d' + 2) (nmv (caA a d o) d' k) = Ab.vm (caA a d o) k ∧ u (dP d' + 3) (nmv (caA a d o) d' k) = Ab.vp (caA a d o) k ∧ u (dP d' + 4) (nmv (caA a d o) d' k) = Ab.vt (caA a d o) k
    simp only [nmv_x h141, hmv, h141, h142, h143, h144, gq (dP d' + 1) (by omega), gq (dP d' + 2) (by omega), gq (dP d' + 3) (by omega), gq (dP d' + 4) (by omega)]
    exact H 13
  | _ + 14 => trivial
theorem ca_ICT (W : WFA a) (C : caC a d o) {s : Hp} (E : ∀ q : Nat, 92 ≤ q → q ≤ 94 → s q = σ q) (H : ICT σ a) : ICT s (caA a d o) := by
  have N := ca_B (a := a) (d := d) (o := o)
  have hpl : Ab.place (caA a d o) = a.place := ca_q (by omega)
  refine ICT_e E (fun k => ?_)
  match k with
  | 0 =>
    have h0 : Chn a (σ 93) (σ 92 0) ∧ ∀ i : Int, 0 ≤ i → i < σ 92 0 → a.place (σ 93 i) = i := H 0
    exact ⟨Chn_t (wT W) (nw_sTm W (ca_C C) (Or.inl (by omega)) N) h0.1, by rw [hpl]; exact h0.2⟩
  | 1 =>
    have h1 : ∀ m : Int, 0 ≤ m → m < 12 → σ 94 m = @ite _ (thr a 0 m ∧ isP a 0 m) (Classical.propDecidable _) (a.place m) (-1) := H 1
    intro i m0 m1
    have e : (thr (caA a d o) 0 i ∧ isP (caA a d o) 0 i) ↔ (thr a 0 i ∧ isP a 0 i) := by
      by_cases g : (0 : Int) = d ∧ i = a.many d
      · constructor
        · rintro ⟨_, q2⟩
          have q3 : Ab.kind (caA a d o) (12 * 0 + i) = 0 := q2
          rw [N.2.1, if_pos (by rw [← g.1, g.2, ← g.1])] at q3
          omega
        · rintro ⟨q1, _⟩
          have := q1.2; rw [g.2, ← g.1] at this; omega
      · rw [nw_t N g, nw_p W C.1 C.2.1 N iD0 m0 m1 g]
    rw [hpl, h1 i m0 m1]
    by_cases g : thr a 0 i ∧ isP a 0 i
    · rw [if_pos g, if_pos (e.mpr g)]
    · rw [if_neg g, if_neg (fun q => g (e.mp q))]
  | _ + 2 => trivial
theorem fPt_m {n : Nat} {x : Int} (h : fPt n x) : fPt (n + 4) x := by
  rcases h with h | h
  · exact Or.inl h
  · exact Or.inr ⟨h.1, by omega, h.2.2⟩
theorem fPt_n {n : Nat} {x : Int} (h : fPt n x) (hn : ∃ j : Nat, n = 171 + 4 * j) : 0 ≤ x ∧ (x.toNat = 125 ∨ 171 ≤ x.toNat) ∧ x.toNat + 3 < n ∧ x ≠ n := by
  obtain ⟨j, hj⟩ := hn
  rcases h with h | h
  · omega
  · omega
/-- the formulas -/
theorem ca_ICW (W : WFA a) (K : WFW a) (C : caC a d o) (hN : n + 4 < 1048576) (H : ICW σ a n) {u : Hp} (E : ∀ q : Nat, (125 ≤ q ∧ q ≤ 128) ∨ (171 ≤ q ∧ q < n) → u q = σ q) (e0 : u 0 6 = n) (en : u n 0 = 0 ∧ u n 1 = 0) (e1 : u (dP d + 11) (a.many d) = σ 0 6) (e2 : ∀ d' m : Int, inD d' → ¬ (d' = d ∧ m = a.many d) → u (dP d' + 11) m = σ (dP d' + 11) m) : ICW u (caA a d o) (n + 4) := by
  have hd' := inD_b C.1
  have hm := C.2.1
  have mb := many_b W C.1
  have hn : ∃ j : Nat, n = 171 + 4 * j := H 2
  obtain ⟨g1, g2, g3⟩ : fPt n (σ 0 6) ∧ fHd σ a (σ 0 6).toNat 36 ∧ σ (σ 0 6).toNat 1 = pilF a 36 (a.len 36).toNat := H 0
  have k0 : wrdOk a 36 := K 0
  -- a formula stays where it is
  have FR : ∀ {x s s' : Int}, fPt n x → fHd σ a x.toNat s → Ab.len (caA a d o) s' = a.len s → (∀ (q : Nat) (k : Int), 137 ≤ q ∧ q ≤ 139 → 0 ≤ k → k < a.len s → caA a d o q (10 * s' + k) = a q (10 * s + k)) → fHd u (caA a d o) x.toNat s' := fun {x s s'} hx hf hl hw => by
    have hp := fPt_n hx hn
    unfold fHd at hf ⊢
    rw [hl, E x.toNat (by omega), E (x.toNat + 1) (by omega), E (x.toNat + 2) (by omega), E (x.toNat + 3) (by omega)]
    refine ⟨hf.1, fun k q0 q1 => ?_⟩
    have f := hf.2 k q0 q1
    refine ⟨?_, ?_, ?_⟩
    · rw [f.1]; exact (hw 137 k (by omega) q0 q1).symm
    · rw [f.2.1]; exact (hw 138 k (by omega) q0 q1).symm
    · rw [f.2.2]; exact (hw 139 k (by omega) q0 q1).symm
  intro k
  match k with
  | 0 =>
    obtain ⟨j, hj⟩ := hn
    have l36 : Ab.len (caA a d o) 36 = 0 := by rw [ca_len, if_pos rfl]
    refine (show fPt (n + 4) (u 0 6) ∧ fHd u (caA a d o) (u 0 6).toNat 36 ∧ u (u 0 6).toNat 1 = pilF (caA a d o) 36 (Ab.len (caA a d o) 36).toNat from ?_)
    rw [e0, l36, show ((n : Int)).toNat = n by omega]
    refine ⟨Or.inr ⟨by omega, by omega, by omega⟩, ⟨by rw [l36]; exact en.1, fun k q0 q1 => by rw [l36] at q1; omega⟩, ?_⟩
    rw [en.2]; rfl
  | 1 =>
    intro d' m hd'' ht hk2
    have k12 := nw_lt W C.1 hm ca_B hd'' ht
    rw [e0]
    by_cases g : d' = d ∧ m = a.many d
    · obtain ⟨rfl, rfl⟩ := g
      rw [e1]
      refine ⟨fPt_m g1, (fPt_n g1 hn).2.2.2, FR g1 g2 ?_ (fun q k hq q0 q1 => ca_new hq q0 (by have := k0.2.1; omega))⟩
      rw [ca_len, if_neg (by omega), if_pos rfl]
    · have ne := nw_ne W C.1 hm hd'' k12.1 k12.2 g
      have ht' := (nw_t ca_B g).mp ht
      have hdd := inD_b hd''
      rw [ca_kind, if_neg ne] at hk2
      obtain ⟨f1, f2, f3⟩ := (show ∀ d m : Int, inD d → thr a d m → a.kind (12 * d + m) = 2 → fPt n (σ (dP d + 11) m) ∧ σ (dP d + 11) m ≠ σ 0 6 ∧ fHd σ a (σ (dP d + 11) m).toNat (12 * d + m) from H 1) d' m hd'' ht' hk2
      have w := (show ∀ d m : Int, inD d → thr a d m → a.kind (12 * d + m) = 2 → 0 < m ∧ wrdOk a (12 * d + m) ∧ _ from K 1) d' m hd'' ht' hk2
      rw [e2 d' m hd'' g]
      refine ⟨fPt_m f1, (fPt_n f1 hn).2.2.2, FR f1 f3 ?_ (fun q k hq q0 q1 => ca_old hq (by have := w.2.1.2.1; omega))⟩
      rw [ca_len, if_neg (by omega), if_neg ne]
  | 2 => obtain ⟨j, hj⟩ := hn; exact ⟨j + 1, by omega⟩
  | _ + 3 => trivial
end

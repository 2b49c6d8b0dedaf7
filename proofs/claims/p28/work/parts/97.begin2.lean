section
def a0N : Nat := 0
def abB : Ab := fun q j => if q = 130 then 1 else if q = 132 then -1 else if q = 129 ∧ j = 35 then -1 else 0
theorem ab_many {d : Int} (_ : inD d) : abB.many d = 1 := rfl
theorem ab_f36 {i : Int} (_ : 0 ≤ i) (_ : i < 36) : abB.kind i = 0 ∧ abB.hid i = 0 := ⟨rfl, rfl⟩
theorem ab_par {d : Int} (_ : inD d) : abB.par (12 * d) = -1 := rfl
theorem ab_pk {d : Int} (_ : inD d) : abB.chos d = 0 ∧ abB.picks d = 0 := ⟨rfl, rfl⟩
theorem ab_n : abB.moves = 0 ∧ abB.asNow = 0 ∧ abB.leave = 0 ∧ abB.measures = 0 ∧ abB.facts = 0 ∧ abB.saved = -1 ∧ abB.keeps = 0 ∧ abB.hits = 0 := ⟨rfl, rfl, rfl, rfl, rfl, rfl, rfl, rfl⟩
theorem ab_md {i : Int} (_ : 0 ≤ i) (_ : i < 12) : abB.md i = 0 := rfl
theorem ab_len : abB.len 36 = 0 := rfl
theorem ab_place : abB.place 0 = 0 := rfl
theorem ab_t {d m : Int} (h : inD d) (ht : thr abB d m) : m = 0 := by
  have h1 := ht.1
  have h2 := ht.2
  rw [ab_many h] at h2
  omega
theorem ab_k0 {d : Int} (h : inD d) : abB.kind (12 * d + 0) = 0 := by
  have := inD_b h
  exact (ab_f36 (by omega) (by omega)).1
theorem ab_aft (q f : Int) : aft abB q f = -1 := by
  unfold aft
  rw [ab_many iD0]
  show (if (-1 : Int) = -1 ∧ f ≤ ((0 : Nat) : Int) ∧ 0 < ((0 : Nat) : Int) ∧ isP abB 0 ((0 : Nat) : Int) ∧ abB.par ((0 : Nat) : Int) = q then ((0 : Nat) : Int) else -1) = -1
  rw [if_neg (fun g => by have := g.2.2.1; omega)]
theorem ab_Chn {row : Int → Int} (h : row 0 = 0) : Chn abB row 1 := by
  have t0 : thr abB 0 0 := ⟨by omega, by rw [ab_many iD0]; omega⟩
  intro k
  match k with
  | 0 => exact (⟨by omega, by omega⟩ : (0 : Int) < 1 ∧ (1 : Int) ≤ 12)
  | 1 => exact h
  | 2 =>
    intro i i0 i1
    have : i = 0 := by omega
    subst this
    rw [h]; exact ⟨t0, ab_k0 iD0⟩
  | 3 => intro i i0 i1; omega
  | 4 =>
    show nxt abB (row (1 - 1)) = -1
    rw [show (1 : Int) - 1 = 0 by omega, h]
    unfold nxt
    rw [ab_aft, if_neg (by omega)]; rfl
  | 5 =>
    intro m ht _
    exact ⟨0, by omega, by omega, by rw [h, ab_t iD0 ht]⟩
  | 6 => intro i j i0 i1 j0 j1 _; omega
  | 7 => show (1 : Int) ≤ abB.many 0; rw [ab_many iD0]; omega
  | _ + 8 => trivial
theorem ab_W : WFA abB := by
  obtain ⟨n1, n2, n3, n4, n5, n6, n7, n8⟩ := ab_n
  intro k
  match k with
  | 0 => intro d hd; rw [ab_many hd]; omega
  | 1 =>
    intro d hd
    have := inD_b hd
    exact ⟨(ab_f36 (by omega) (by omega)).1, (ab_f36 (by omega) (by omega)).2, ab_par hd⟩
  | 2 => intro d m hd ht; rw [ab_t hd ht]; exact Or.inl (ab_k0 hd)
  | 3 => intro d m hd ht _ m0; have := ab_t hd ht; omega
  | 4 => intro d m hd ht hk; rw [ab_t hd ht, ab_k0 hd] at hk; omega
  | 5 => intro d m hd ht hk; rw [ab_t hd ht, ab_k0 hd] at hk; omega
  | 6 =>
    intro d m hd m0 m1
    have := inD_b hd
    have g := ab_f36 (i := 12 * d + m) (by omega) (by omega)
    exact ⟨Or.inl g.2, fun _ => g.2, fun _ => g.1⟩
  | 7 => exact ⟨by rw [n1]; omega, by rw [n1]; omega, fun k k0 k1 => by rw [n1] at k1; omega⟩
  | 8 => exact ⟨Or.inl n2, Or.inl n3⟩
  | 9 => exact ⟨fun _ => 0, 1, ab_Chn rfl, fun i i0 i1 => by rw [ab_place]; omega⟩
  | 10 => exact ⟨by rw [n4]; omega, by rw [n4]; omega, fun m m0 m1 => by rw [n4] at m1; omega⟩
  | 11 => intro i i0 i1; rw [ab_md i0 i1]; omega
  | 12 => exact ⟨by rw [n5]; omega, by rw [n5]; omega, fun f f0 f1 => by rw [n5] at f1; omega⟩
  | 13 => exact ⟨by rw [n6]; omega, by rw [n6]; omega, fun f f0 f1 => by rw [n6] at f1; omega⟩
  | 14 => exact ⟨by rw [n7]; omega, by rw [n7]; omega, fun f f0 f1 => by rw [n7] at f1; omega⟩
  | 15 => intro d hd; rw [(ab_pk hd).1]; exact ⟨by omega, by rw [ab_many hd]; omega⟩
  | 16 => intro d hd; rw [(ab_pk hd).2]; exact ⟨by omega, by omega, fun i i0 i1 => by omega⟩
  | 17 => show 0 ≤ abB.len 36 ∧ abB.len 36 ≤ 10; rw [ab_len]; omega
  | 18 => intro f g f0 f1; rw [n5] at f1; omega
  | 19 => intro f g f0 f1; rw [n6] at f1; omega
  | _ + 20 => trivial
theorem ab_K : WFW abB := by
  intro k
  match k with
  | 0 => show wrdOk abB 36; unfold wrdOk; rw [ab_len]; exact ⟨by omega, by omega, fun k hk => by omega⟩
  | 1 => intro d m hd ht hk; rw [ab_t hd ht, ab_k0 hd] at hk; omega
  | _ + 2 => trivial
theorem dP_3 {d : Int} (h : inD d) : ∃ k : Fin 3, dP d = 2 + 30 * (k : Nat) := by
  rcases h with rfl | rfl | rfl
  · exact ⟨0, rfl⟩
  · exact ⟨1, rfl⟩
  · exact ⟨2, rfl⟩
theorem ab_wgt {d u : Int} (h : inD d) : wgt abB d 0 0 u = 1 := by
  unfold wgt
  rw [if_pos (ab_k0 h)]; rfl
theorem ab_D {d : Int} (hd : inD d) : ICD zBegin abB (dP d) d := by
  obtain ⟨k, hk⟩ := dP_3 hd
  obtain ⟨⟨g0, g1, g2, g3, g4⟩, g5, g6, g7, g8, g9, g10⟩ := zb_d k
  rw [← hk] at g0 g1 g2 g3 g4 g5 g6 g7 g8 g9 g10
  have n1 := ab_n.1
  intro j
  match j with
  | 0 => show zBegin (dP d) 0 = abB.many d; rw [g0, ab_many hd]
  | 1 => show zBegin (dP d) 1 = abB.chos d; rw [g1, (ab_pk hd).1]
  | 2 => show zBegin (dP d) 2 = abB.picks d ∧ _; rw [g2, (ab_pk hd).2]; exact ⟨rfl, fun i i0 i1 => by omega⟩
  | 3 => intro m ht; rw [ab_t hd ht, ab_k0 hd]; exact g4
  | 4 => intro m ht _ m0; have := ab_t hd ht; omega
  | 5 => intro m ht hk1; rw [ab_t hd ht, ab_k0 hd] at hk1; omega
  | 6 => intro m ht hk1; rw [ab_t hd ht, ab_k0 hd] at hk1; omega
  | 7 =>
    intro m m0 m1
    have hd' := inD_b hd
    obtain ⟨i, hi⟩ := bt_k (n := 12) m0 m1
    rw [(ab_f36 (i := 12 * d + m) (by omega) (by omega)).2, hi]
    exact g5 i
  | 8 => intro m ht _; rw [ab_t hd ht, if_pos rfl]; exact g6
  | 9 => intro m ht _; rw [ab_t hd ht]; exact g7
  | 10 =>
    intro m ht
    rw [ab_t hd ht, g8]
    exact (bI_t ⟨fun _ => trivial, fun h => by rw [ab_k0 hd] at h; omega⟩).symm
  | 11 =>
    intro m o ht ho _ _
    rw [ab_t hd ht, ab_t hd ho, ab_wgt hd]; exact g10
  | 12 =>
    intro t htt _ m o ht ho _ _
    rw [ab_t iD0 htt, ab_t hd ht, ab_t hd ho, ab_wgt hd]; exact g9
  | 13 =>
    show zBegin (dP d + 1) 0 = nmv abB d abB.moves.toNat ∧ ∀ k : Nat, (k : Int) < abB.moves → _
    rw [n1]
    exact ⟨g3, fun k hk => by omega⟩
  | _ + 14 => trivial
theorem J_begin : J zBegin abB 171 0 := by
  obtain ⟨n1, n2, n3, n4, n5, n6, n7, n8⟩ := ab_n
  obtain ⟨⟨c1, c2⟩, c3, ⟨c4, c5, c6, c7, c8, c9, c10⟩, c11, c12, c13, c14⟩ := zb_c
  have IT : ICT zBegin abB := by
    intro k
    match k with
    | 0 =>
      show Chn abB (zBegin 93) (zBegin 92 0) ∧ ∀ i : Int, 0 ≤ i → i < zBegin 92 0 → abB.place (zBegin 93 i) = i
      rw [c1]
      refine ⟨ab_Chn c2, fun i i0 i1 => ?_⟩
      have : i = 0 := by omega
      subst this
      rw [c2]; exact ab_place
    | 1 =>
      intro m m0 m1
      obtain ⟨i, hi⟩ := bt_k (n := 12) m0 m1
      have g := c3 i
      rw [← hi] at g
      by_cases z : m = 0
      · rw [if_pos ⟨by rw [z]; exact ⟨by omega, by rw [ab_many iD0]; omega⟩, by rw [z]; exact ab_k0 iD0⟩, g, if_pos (by omega), z]; exact ab_place.symm
      · rw [if_neg (fun q => z (ab_t iD0 q.1)), g, if_neg (by omega)]
    | _ + 2 => trivial
  have IM : ICM zBegin abB := by
    intro k
    match k with
    | 0 => show zBegin 95 0 = abB.measures; rw [c6, n4]
    | 1 => intro m m0 m1; rw [n4] at m1; omega
    | 2 => intro m m0 m1; rw [n4] at m1; omega
    | 3 =>
      intro i i0 i1
      obtain ⟨x, hx⟩ := bt_k (n := 12) i0 i1
      rw [ab_md i0 i1, hx]; exact zb_100 x
    | _ + 4 => trivial
  have IF : ICF zBegin abB := by
    intro k
    match k with
    | 0 => exact (⟨by rw [c7, n5], fun f f0 f1 => by rw [n5] at f1; omega⟩ : zBegin 101 0 = abB.facts ∧ ∀ f : Int, 0 ≤ f → f < abB.facts → zBegin 102 f = 144 * abB.ft f + 12 * abB.fa f + abB.fb f ∧ zBegin 103 f = abB.fm f ∧ zBegin 104 f = abB.fv f)
    | 1 => show zBegin 101 2 = bI (0 ≤ abB.saved); rw [c8, n6, bI_f (by omega)]
    | 2 => intro g; rw [n6] at g; omega
    | _ + 3 => trivial
  have IW : ICW zBegin abB 171 := by
    intro k
    match k with
    | 0 =>
      show fPt 171 (zBegin 0 6) ∧ fHd zBegin abB (zBegin 0 6).toNat 36 ∧ zBegin (zBegin 0 6).toNat 1 = pilF abB 36 (abB.len 36).toNat
      rw [c11, ab_len]
      exact ⟨Or.inl rfl, ⟨by rw [ab_len]; exact c12, fun k k0 k1 => by rw [ab_len] at k1; omega⟩, c13⟩
    | 1 => intro d m hd ht hk; rw [ab_t hd ht, ab_k0 hd] at hk; omega
    | 2 => exact ⟨0, rfl⟩
    | _ + 3 => trivial
  have D0 : ICD zBegin abB (dP 0) 0 := ab_D iD0
  have D1 : ICD zBegin abB (dP 1) 1 := ab_D iD1
  have D2 : ICD zBegin abB (dP 2) 2 := ab_D iD2
  rw [show dP 0 = 2 from rfl] at D0
  rw [show dP 1 = 32 from rfl] at D1
  rw [show dP 2 = 62 from rfl] at D2
  have K0 : ICK zBegin abB := ICK_0 c9 (by rw [c10, n8]) n7
  have h4 : zBegin 1 4 = abB.asNow ∧ zBegin 1 5 = abB.leave := ⟨by rw [c4, n2], by rw [c5, n3]⟩
  have h9 : ic9 zBegin 0 := by
    unfold ic9
    rw [c14]
    exact ⟨by omega, by omega, fun c _ _ => by rw [zb_117]; omega⟩
  have R : ICR zBegin abB := ⟨D0, D1, D2, IT, h4, IM, IF⟩
  have I : IC zBegin abB 171 0 := IC_mk R K0 IW h9
  exact ⟨ab_W, ab_K, trivial, I, trivial, by rw [n8]; omega, by rw [n8]; omega⟩
end

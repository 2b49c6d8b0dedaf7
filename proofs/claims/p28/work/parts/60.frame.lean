/-! ===== a call of both sides ===== -/
def ic9 (σ : Hp) (B : Int) : Prop := 0 ≤ σ 116 4 ∧ σ 116 4 ≤ B ∧ ∀ c : Int, 0 ≤ c → c < 1728 → σ 117 c ≤ σ 116 4
theorem IC_r {σ : Hp} {a : Ab} {n : Nat} {B : Int} (H : IC σ a n B) : ICR σ a ∧ ICK σ a ∧ ICW σ a n ∧ ic9 σ B := ⟨⟨H 0, H 1, H 2, H 3, H 4, H 5, H 6⟩, H 7, H 8, H 9⟩
theorem IC_mk {σ : Hp} {a : Ab} {n : Nat} {B : Int} (R : ICR σ a) (K : ICK σ a) (W : ICW σ a n) (h9 : ic9 σ B) : IC σ a n B := by
  intro k
  match k with
  | 0 => exact R.1
  | 1 => exact R.2.1
  | 2 => exact R.2.2.1
  | 3 => exact R.2.2.2.1
  | 4 => exact R.2.2.2.2.1
  | 5 => exact R.2.2.2.2.2.1
  | 6 => exact R.2.2.2.2.2.2
  | 7 => exact K
  | 8 => exact W
  | 9 => exact h9
  | _ + 10 => trivial
theorem ICK_f {σ σ' : Hp} {a : Ab} (h : ∀ q : Nat, 108 ≤ q → q ≤ 111 → σ' q = σ q) (H : ICK σ a) : ICK σ' a := by
  intro k
  have G := H k
  match k, G with
  | 0, G => simp only [ick, h 108 (by omega) (by omega)] at G ⊢; exact G
  | 1, G => simp only [ick, h 109 (by omega) (by omega), h 110 (by omega) (by omega), h 111 (by omega) (by omega)] at G ⊢; exact G
  | _ + 2, _ => trivial
theorem fHd_f {σ σ' : Hp} {a : Ab} {P : Nat} {s : Int} (h : ∀ q : Nat, P ≤ q → q ≤ P + 3 → σ' q = σ q) (H : fHd σ a P s) : fHd σ' a P s := by
  unfold fHd at H ⊢
  rw [h P (by omega) (by omega), h (P + 1) (by omega) (by omega), h (P + 2) (by omega) (by omega), h (P + 3) (by omega) (by omega)]
  exact H
theorem fPt_b {n : Nat} {x : Int} (h : fPt n x) : 0 ≤ x ∧ (x.toNat = 125 ∨ (171 ≤ x.toNat ∧ x.toNat + 3 < 1048576)) := by
  rcases h with e | e
  · subst e; exact ⟨by omega, Or.inl rfl⟩
  · exact ⟨by omega, Or.inr (by omega)⟩
theorem ICW_f {σ σ' : Hp} {a : Ab} {n : Nat} (h : ∀ q : Nat, (q = 0 ∨ q = 13 ∨ q = 43 ∨ q = 73) ∨ (125 ≤ q ∧ q ≤ 128) ∨ (171 ≤ q ∧ q < 1048576) → σ' q = σ q) (H : ICW σ a n) : ICW σ' a n := by
  intro k
  have G := H k
  match k, G with
  | 0, G =>
    obtain ⟨g1, g2, g3⟩ : fPt n (σ 0 6) ∧ fHd σ a (σ 0 6).toNat 36 ∧ σ (σ 0 6).toNat 1 = pilF a 36 (a.len 36).toNat := G
    have hp := fPt_b g1
    have e := h 0 (by omega)
    refine (show fPt n (σ' 0 6) ∧ fHd σ' a (σ' 0 6).toNat 36 ∧ σ' (σ' 0 6).toNat 1 = pilF a 36 (a.len 36).toNat from ?_)
    rw [e, h (σ 0 6).toNat (by omega)]
    exact ⟨g1, fHd_f (fun q h1 h2 => h q (by omega)) g2, g3⟩
  | 1, G =>
    intro d m hd ht hk
    have g : fPt n (σ (dP d + 11) m) ∧ σ (dP d + 11) m ≠ σ 0 6 ∧ fHd σ a (σ (dP d + 11) m).toNat (12 * d + m) := G d m hd ht hk
    have hp := fPt_b g.1
    have hdp := dP_b hd
    rw [h 0 (by omega), h (dP d + 11) (by omega)]
    exact ⟨g.1, g.2.1, fHd_f (fun q h1 h2 => h q (by omega)) g.2.2⟩
  | 2, G => exact G
  | _ + 3, _ => trivial
theorem ICW_fok {σ : Hp} {a : Ab} {n : Nat} (H : ICW σ a n) : fok σ a n := by
  intro d m hd ht hk
  have g : fPt n (σ (dP d + 11) m) ∧ σ (dP d + 11) m ≠ σ 0 6 ∧ fHd σ a (σ (dP d + 11) m).toNat (12 * d + m) := H 1 d m hd ht hk
  exact ⟨g.1, g.2.2⟩
theorem IC_m {σ σ' : Hp} {a : Ab} {n : Nat} {B B' : Int} (W : WFA a) (h : ∀ q : Nat, q < 129 ∨ 170 < q → σ' q = σ q) (hB : B ≤ B') (H : IC σ a n B) : IC σ' a n B' := by
  obtain ⟨R, K, Wd, h9⟩ := IC_r H
  refine IC_mk (ICR_f W (fun q hq => h q (by omega)) R) (ICK_f (fun q _ _ => h q (by omega)) K) (ICW_f (fun q hq => h q (by omega)) Wd) ?_
  unfold ic9 at h9 ⊢
  rw [h 116 (by omega), h 117 (by omega)]
  exact ⟨h9.1, by omega, h9.2.2⟩
theorem ICV_fresh {σ σ' : Hp} {a a' : Ab} {B B' : Int} (V : ICV σ a B) (h1 : σ' 161 = σ 161) (h2 : σ 129 38 < σ' 129 38) (h2' : σ' 129 38 ≤ B') (h3 : σ' 129 46 = σ 129 46) (W : WFA a') : ICV σ' a' B' := by
  have v0 : 1 ≤ σ 129 38 ∧ σ 129 38 ≤ B ∧ ∀ c : Int, 0 ≤ c → c < 13824 → σ 161 c ≤ σ 129 38 := V 0
  have v2 : σ 129 46 = 0 := V 2
  intro k
  match k with
  | 0 => exact (⟨by omega, by omega, fun c c0 c1 => by rw [h1]; have := v0.2.2 c c0 c1; omega⟩ : 1 ≤ σ' 129 38 ∧ σ' 129 38 ≤ B' ∧ ∀ c : Int, 0 ≤ c → c < 13824 → σ' 161 c ≤ σ' 129 38)
  | 1 =>
    intro t x y m ht hx hy m0 m1
    have t12 := thr12 W iD0 ht
    have x12 := thr12 W iD1 hx
    have y12 := thr12 W iD2 hy
    have m4 := (mea W m0 m1).1
    have b1 := v0.2.2 (576 * t + 48 * x + 4 * y + m) (by omega) (by omega)
    have b2 := v0.2.2 (6912 + 576 * t + 48 * x + 4 * y + m) (by omega) (by omega)
    rw [h1]
    exact ⟨fun g => by omega, fun g => by omega⟩
  | 2 => exact (by rw [h3]; exact v2 : σ' 129 46 = 0)
  | _ + 3 => trivial
theorem ICV_f {σ σ' : Hp} {a : Ab} {B B' : Int} (V : ICV σ a B) (h1 : σ' 161 = σ 161) (h0 : σ' 160 = σ 160) (h2 : σ' 129 38 = σ 129 38) (h3 : σ' 129 46 = σ 129 46) (hB : B ≤ B') : ICV σ' a B' := by
  intro k
  have G := V k
  match k, G with
  | 0, G => simp only [icv, h1, h2] at G ⊢; exact ⟨G.1, by omega, G.2.2⟩
  | 1, G => simp only [icv, h1, h0, h2] at G ⊢; exact G
  | 2, G => simp only [icv, h3] at G ⊢; exact G
  | _ + 3, _ => trivial
/-- the class, and what it means; B bounds the stamps -/
def J (σ : Hp) (a : Ab) (n : Nat) (B : Int) : Prop := WFA a ∧ WFW a ∧ True ∧ IC σ a n B ∧ True ∧ 0 ≤ a.hits ∧ a.hits ≤ B
/-- what the law's own method leaves: what was thrown, or the answer in its cell -/
def LR (σ : Hp) (e : Nat) (a' : Ab) (n' : Nat) (B' code v : Int) (r : Int × Nat × Hp) : Prop := r.1 = code ∧ (code = 0 → r.2.2 170 0 = v) ∧ r.2.1 ≤ e + 1 ∧ (∀ q : Nat, 129 ≤ q → (q ≤ 169 ∨ 1048576 ≤ q) → r.2.2 q = σ q) ∧ IC r.2.2 a' n' B'
def gdA (a' : Ab) (B' : Int) : Prop := WFA a' ∧ WFW a' ∧ 0 ≤ a'.hits ∧ a'.hits ≤ B'
/-- members, measures and hits as they were -/
def TKs (a b : Ab) : Prop := (∀ d : Int, inD d → b.many d = a.many d) ∧ b.measures = a.measures ∧ b.hits = a.hits
/-- a member more -/
def TKg (a b : Ab) (D : Int) : Prop := (∀ d : Int, inD d → b.many d = if d = D then a.many D + 1 else a.many d) ∧ b.measures = a.measures ∧ b.hits = a.hits
/-- what a call leaves: its answer, or nothing but what was thrown -/
def TT (a : Ab) (C : Prop) (S : Int → Ab → Prop) (code v : Int) (b : Ab) : Prop := (code = 0 ∧ S v b) ∨ ((1 ≤ code ∧ code ≤ 3) ∧ b = a ∧ ¬ C)
theorem TT_0 {a b : Ab} {C : Prop} {S : Int → Ab → Prop} {v : Int} (h : S v b) : TT a C S 0 v b := Or.inl ⟨rfl, h⟩
theorem TT_e {a : Ab} {C : Prop} {S : Int → Ab → Prop} {code v : Int} (h : 1 ≤ code ∧ code ≤ 3) (c : ¬ C) : TT a C S code v a := Or.inr ⟨h, rfl, c⟩
theorem TKs_s {a b : Ab} (S : smem a b) (M : b.measures = a.measures) (h : b.hits = a.hits) : TKs a b := ⟨fun _ _ => congrFun (S.1 130 (by omega)) _, M, h⟩
theorem TKs_r (a : Ab) : TKs a a := ⟨fun _ _ => rfl, rfl, rfl⟩
theorem TKs_tr {a b c : Ab} (h : TKs a b) (g : TKs b c) : TKs a c := ⟨fun d hd => (g.1 d hd).trans (h.1 d hd), g.2.1.trans h.2.1, g.2.2.trans h.2.2⟩
def OPT (σ : Hp) (a : Ab) (n : Nat) (B : Int) (e : Nat) (T : Int → Int → Ab → Prop) (L : Option (Int × Nat × Hp)) : Prop := ∃ (code v : Int) (a' : Ab), gdA a' (B + 60) ∧ T code v a' ∧ Okk L (LR σ e a' n (B + 60) code v)
theorem opt_er {σ : Hp} {a : Ab} {n : Nat} {B : Int} {e : Nat} {T : Int → Int → Ab → Prop} {L : Option (Int × Nat × Hp)} (H : J σ a n B) (code v : Int) (hT : T code v a) (hL : Okk L (LR σ e a n (B + 60) code v)) : OPT σ a n B e T L := ⟨code, v, a, ⟨H.1, H.2.1, H.2.2.2.2.2.1, by have := H.2.2.2.2.2.2; omega⟩, hT, hL⟩
/-- the class's part, when nothing is thrown -/
theorem L_ok {σ : Hp} {e : Nat} {a' : Ab} {n' : Nat} {B' v : Int} {x : Option (Nat × Int × Hp)} {k : Nat × Int × Hp → Option (Int × Nat × Hp)} (W' : WFA a') (C : Okk x fun r => r.1 = 0 ∧ r.2.1 = v ∧ (∀ q : Nat, 129 ≤ q → (q ≤ 169 ∨ 1048576 ≤ q) → r.2.2 q = σ q) ∧ IC r.2.2 a' n' B') : Okk (x.bind fun v1 => if v1.1 = 0 then grd (0 ≤ (0 : Int) ∧ (0 : Int) < 1) <| some (0, e, (hset v1.2.2 170 0 v1.2.1)) else k v1) (LR σ e a' n' B' 0 v) := by
  refine ok_call C ?_
  rintro r ⟨r1, r2, r3, r4⟩
  rw [if_pos r1]
  refine ok_grd (by omega) (ok_some ⟨rfl, fun _ => ?_, ?_, fun q h1 h2 => ?_, IC_m W' (fun q hq => hset_ne (by omega)) (Int.le_refl _) r4⟩)
  · show hset r.2.2 170 0 r.2.1 170 0 = v
    rw [hs_eq]; exact r2
  · show e ≤ e + 1; omega
  · show hset r.2.2 170 0 r.2.1 q = σ q
    rw [hset_ne (by omega)]; exact r3 q h1 h2
theorem LR_er {σ : Hp} {a : Ab} {n : Nat} {B B' : Int} {e : Nat} (W : WFA a) (H : IC σ a n B) (hB : B ≤ B') (code v : Int) (hc : code ≠ 0) : LR σ e a n B' code v (code, e + 1, σ) := ⟨rfl, fun g => absurd g hc, Nat.le_refl _, fun _ _ _ => rfl, IC_m W (fun _ _ => rfl) hB H⟩
theorem Vw_50 {σ : Hp} {a : Ab} (V : Vw σ a) (v : Int) : Vw (hset σ 129 50 v) a := Vw_h V (by unfold vwP; omega)
theorem ICV_50 {σ : Hp} {a : Ab} {B B' : Int} (V : ICV σ a B) (v : Int) (hB : B ≤ B') : ICV (hset σ 129 50 v) a B' := ICV_f V (hset_ne (by omega)) (hset_ne (by omega)) (hs_nj (by omega)) (hs_nj (by omega)) hB
theorem e_K_dropAll (σ : Hp) : f_K_dropAll σ = some (hset σ 108 0 0) := rfl
/-- the reference's cells after fresh -/
def frs (a : Ab) : Ab := hset a 129 40 0
theorem frs_q {a : Ab} {q : Nat} (h : q ≠ 129) : frs a q = a q := hset_ne h
theorem frs_j {a : Ab} {j : Int} (h : j ≠ 40) : frs a 129 j = a 129 j := hs_nj h
theorem frs_0 (a : Ab) : (frs a).keeps = 0 := by show hset a 129 40 0 129 40 = 0; exact hs_eq
theorem Vw_fresh {σ : Hp} {a : Ab} (V : Vw σ a) (v : Int) : Vw (hset (hset σ 129 40 0) 129 38 v) (frs a) := Vw_h (Vw_s V) (by unfold vwP; omega)
theorem ICV_frs {σ0 σ : Hp} {a a' : Ab} {B : Int} (VV : ICV σ0 a (B + 1)) (W : WFA a') (h1 : σ 161 = σ0 161) (h2 : σ 129 38 = σ0 129 38) (h3 : σ 129 46 = σ0 129 46) : ICV (hset (hset σ 129 40 0) 129 38 (σ 129 38 + 1)) a' (B + 61) := by
  have v0 : 1 ≤ σ0 129 38 ∧ σ0 129 38 ≤ B + 1 ∧ ∀ c : Int, 0 ≤ c → c < 13824 → σ0 161 c ≤ σ0 129 38 := VV 0
  refine ICV_fresh VV ?_ ?_ ?_ ?_ W
  · rw [hset_ne (by omega), hset_ne (by omega)]; exact h1
  · rw [hs_eq]; omega
  · rw [hs_eq]; omega
  · rw [hs_nj (by omega), hs_nj (by omega)]; exact h3
/-- nothing is kept -/
theorem ICK_0 {σ : Hp} {a : Ab} (h0 : σ 108 0 = 0) (h1 : σ 108 1 = a.hits) (hk : a.keeps = 0) : ICK σ a := by
  intro k
  match k with
  | 0 => exact ⟨by rw [h0, hk], h1⟩
  | 1 => intro k k0 k1; omega
  | _ + 2 => trivial
theorem hit_e {σ : Hp} {a : Ab} (H : ICK σ a) : σ 108 0 = a.keeps ∧ σ 108 1 = a.hits := H 0

theorem seeP_p {a : Ab} {d m : Int} (h : isP a d m) : seeP a d m ↔ opn a d m := by
  unfold seeP
  constructor
  · intro g; exact g.1 h
  · intro g; exact ⟨fun _ => g, fun e => by have : a.kind (12 * d + m) = 0 := h; omega⟩
/-- all but two cells are as they were -/
def sam2 (p q : Nat) (σ σ' : Hp) : Prop := ∀ x : Nat, x ≠ p → x ≠ q → σ' x = σ x
theorem sam2_t {p q : Nat} {σ σ' σ'' : Hp} (h1 : sam2 p q σ σ') (h2 : sam2 p q σ' σ'') : sam2 p q σ σ'' := fun x hx hy => (h2 x hx hy).trans (h1 x hx hy)
theorem c_settle2 {a : Ab} (W : WFA a) {p : Nat} {d : Int} (hd : inD d) : ∀ (F : Nat) (i : Int) (σ : Hp), icd σ a p d 0 → icd σ a p d 3 → icd σ a p d 5 → icd σ a p d 7 → icd σ a p d 8 → p ≤ 62 → 1 ≤ i → i ≤ a.many d → a.many d - i < F → (∀ m : Int, 0 ≤ m → m < i → isP a d m → σ (p + 14) m = dep a d m) → (∀ m : Int, 0 ≤ m → m < i → σ (p + 15) m = bI (seeP a d m)) → Okk (f_D_settle_2 p F i σ) fun r => sam2 (p + 14) (p + 15) σ r.2 ∧ icd r.2 a p d 9 ∧ icd r.2 a p d 10 := by
  intro F
  induction F with
  | zero => intro i σ h0 h3 h5 h7 h8 hp6 hi hi2 hF; omega
  | succ F ih =>
    intro i σ h0 h3 h5 h7 h8 hp6 hi hi2 hF hdep hsee
    have h0' : σ p 0 = a.many d := h0
    have h3' : ∀ m : Int, thr a d m → σ (p + 5) m = a.kind (12 * d + m) := h3
    have h7' : ∀ m : Int, 0 ≤ m → m < 12 → σ (p + 10) m = a.hid (12 * d + m) := h7
    have h8' : ∀ m : Int, thr a d m → isP a d m → σ (p + 13) m = if m = 0 then -1 else now a d m := h8
    have hm := many_b W hd
    rw [f_D_settle_2, h0']
    refine ok_ite (fun hc => ok_some ⟨fun _ _ _ => rfl, fun m ht hp => hdep m ht.1 (by have := ht.2; omega) hp, fun m ht => hsee m ht.1 (by have := ht.2; omega)⟩) (fun hc => ?_)
    have ht : thr a d i := ⟨by omega, by omega⟩
    refine ok_eqb (r_isPlain W hd h0 h3 i) ?_
    by_cases hp : isP a d i
    · rw [bI_t ⟨ht, hp⟩, if_neg (by omega)]
      have hb := now_b W hd ht hp (by omega)
      have e13 := h8' i ht hp
      rw [if_neg (by omega)] at e13
      have e5 := h3' (now a d i) (thr_lt ht hb.1 (by omega))
      have ed := hdep (now a d i) hb.1 (by omega) hb.2.2
      have hdr := dep_r W hd (thr_lt ht hb.1 (by omega : now a d i ≤ i)) hb.2.2
      have es := dep_s W hd ht hp (by omega)
      refine ok_bind (ok_grd (by omega) ?_)
      rw [e13]
      refine ok_eqb (v := dep a d (now a d i)) ((e_D_depthOf σ p (now a d i)).trans (by rw [h0', if_pos ⟨hb.1, by have := ht.2; omega, by omega, by rw [e5]; exact hb.2.2⟩, ed])) ?_
      rw [← es]
      have hdi := dep_r W hd ht hp
      refine ok_grd (by (first | omega | (unfold r32; omega) | (unfold r64; omega) | (simp only [r32, r64] at *; omega))) (ok_grd (by omega) (ok_grd (by omega) ?_))
      have hs1 : sam (p + 14) σ (hset σ (p + 14) i (dep a d i)) := sam_h
      rw [hs1 (p + 10) (by omega), hs1 (p + 13) (by omega), h7' i (by omega) (by omega), e13]
      refine ok_call (P := fun v => v = bI (seeP a d i)) ?_ ?_
      · by_cases hh : a.hid (12 * d + i) = 0
        · rw [if_neg (by omega)]
          refine ok_grd (by omega) ?_
          refine ok_eqb (e_D_isSeen _ p (now a d i) (by rw [hs1 p (by omega), h0']; omega)) ?_
          rw [hs1 p (by omega), hs1 (p + 15) (by omega), h0', hsee (now a d i) hb.1 (by omega)]
          by_cases ho : opn a d (now a d i)
          · rw [bI_t ((seeP_p hb.2.2).mpr ho), bI_t ⟨hb.1, by have := ht.2; omega, by omega⟩, if_neg (by omega)]
            exact ok_some (bI_t ((seeP_p hp).mpr ((opn_s W hd ht hp (by omega)).mpr ⟨hh, ho⟩))).symm
          · rw [bI_f (fun g => ho ((seeP_p hb.2.2).mp g)), bI_f (fun g => g.2.2 rfl), if_pos rfl]
            exact ok_some (bI_f (fun g => ho ((opn_s W hd ht hp (by omega)).mp ((seeP_p hp).mp g)).2)).symm
        · rw [if_pos hh]
          exact ok_some (bI_f (fun g => hh ((opn_s W hd ht hp (by omega)).mp ((seeP_p hp).mp g)).1)).symm
      · rintro v rfl
        refine ok_grd (by omega) (ok_grd (bI_r _) (ok_some (ok_grd (by (first | omega | (unfold r32; omega) | (unfold r64; omega) | (simp only [r32, r64] at *; omega))) ?_)))
        have hs : sam2 (p + 14) (p + 15) σ (hset (hset σ (p + 14) i (dep a d i)) (p + 15) i (bI (seeP a d i))) := fun q h1 h2 => by rw [hset_ne h2, hset_ne h1]
        refine ok_mono (ih (i + 1) _ (icd_c0 (hs _ (by omega) (by omega)) h0) (icd_c3 (hs _ (by omega) (by omega)) h3) (icd_c5 (hs _ (by omega) (by omega)) h5) (icd_c7 (hs _ (by omega) (by omega)) h7) (icd_c8 (hs _ (by omega) (by omega)) h8) hp6 (by omega) (by omega) (by omega) ?_ ?_) ?_
        · intro m m0 m1 hpm
          rw [hs_ne (by omega)]
          by_cases hmi : m = i
          · subst hmi; exact hs_eq
          · rw [hs_nj hmi]; exact hdep m m0 (by omega) hpm
        · intro m m0 m1
          by_cases hmi : m = i
          · subst hmi; exact hs_eq
          · rw [hs_nj hmi, hs_ne (by omega)]; exact hsee m m0 (by omega)
        · rintro r ⟨r1, r2, r3⟩
          exact ⟨sam2_t hs r1, r2, r3⟩
    · rw [bI_f (fun g => hp g.2), if_pos rfl]
      refine ok_bind (ok_eqb (c_isBridgeSeen W hd h0 h3 h5 ht hp (fun m m0 m1 hpm => by rw [hsee m m0 m1]; exact bI_iff (seeP_p hpm)) zFuel 0 (by omega) (by omega) (by unfold zFuel; omega) (fun _ k k0 k1 => by omega)) ?_)
      refine ok_grd (by omega) (ok_grd (bI_r _) (ok_some (ok_grd (by (first | omega | (unfold r32; omega) | (unfold r64; omega) | (simp only [r32, r64] at *; omega))) ?_)))
      have hs : sam2 (p + 14) (p + 15) σ (hset σ (p + 15) i (bI (seeP a d i))) := fun q h1 h2 => by rw [hset_ne h2]
      refine ok_mono (ih (i + 1) _ (icd_c0 (hs _ (by omega) (by omega)) h0) (icd_c3 (hs _ (by omega) (by omega)) h3) (icd_c5 (hs _ (by omega) (by omega)) h5) (icd_c7 (hs _ (by omega) (by omega)) h7) (icd_c8 (hs _ (by omega) (by omega)) h8) hp6 (by omega) (by omega) (by omega) ?_ ?_) ?_
      · intro m m0 m1 hpm
        rw [hs_ne (by omega)]
        exact hdep m m0 (by have : m ≠ i := fun e => hp (e ▸ hpm); omega) hpm
      · intro m m0 m1
        by_cases hmi : m = i
        · subst hmi; exact hs_eq
        · rw [hs_nj hmi]; exact hsee m m0 (by omega)
      · rintro r ⟨r1, r2, r3⟩
        exact ⟨sam2_t hs r1, r2, r3⟩
theorem c_settle {a : Ab} (W : WFA a) {p : Nat} {d : Int} (hd : inD d) {σ : Hp} (h0 : icd σ a p d 0) (h3 : icd σ a p d 3) (h5 : icd σ a p d 5) (h7 : icd σ a p d 7) (h8 : icd σ a p d 8) (hp6 : p ≤ 62) (hz : σ (p + 14) 0 = 0 ∧ σ (p + 15) 0 = 1) : Okk (f_D_settle σ p) fun r => sam2 (p + 14) (p + 15) σ r ∧ icd r a p d 9 ∧ icd r a p d 10 := by
  have hm := many_b W hd
  have hk0 : isP a d 0 := by show a.kind (12 * d + 0) = 0; rw [show 12 * d + 0 = 12 * d by omega]; exact (W 1 d hd).1
  unfold f_D_settle
  refine ok_call (c_settle2 W hd zFuel 1 σ h0 h3 h5 h7 h8 hp6 (by omega) (by omega) (by unfold zFuel; omega) ?_ ?_) (fun r hr => ok_some hr)
  · intro m m0 m1 _
    have : m = 0 := by omega
    subst this; rw [hz.1, dep_0]
  · intro m m0 m1
    have : m = 0 := by omega
    subst this; rw [hz.2, bI_t ((seeP_p hk0).mpr (opn_0 a d))]

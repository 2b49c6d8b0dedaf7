section
variable {σ : Hp} {a a' b : Ab} {n : Nat} {B : Int} {e : Nat} {d k m : Int} {row : Int → Int}
theorem pb_RM (W : WFA a) (K : WFW a) {s : Hp} : RM s (pcB a d row k) m ↔ RM s a m := by
  have h130 : Ab.many (pcB a d row k) = a.many := pb_S.1 130 (by omega)
  unfold RM
  constructor
  · rintro ⟨h1, h2, h3⟩
    exact ⟨h1, h2, fun t x y h g => by rw [← val_cc W K (pb_V (a := a) (d := d) (row := row) (k := k)) h]; exact h3 t x y ⟨by simp only [thr, h130]; exact h.1, by simp only [thr, h130]; exact h.2.1, by simp only [thr, h130]; exact h.2.2⟩ g⟩
  · rintro ⟨h1, h2, h3⟩
    refine ⟨h1, h2, fun t x y h g => ?_⟩
    have h' : cin a t x y := ⟨by have := h.1; simp only [thr, h130] at this; exact this, by have := h.2.1; simp only [thr, h130] at this; exact this, by have := h.2.2; simp only [thr, h130] at this; exact this⟩
    rw [val_cc W K (pb_V (a := a) (d := d) (row := row) (k := k)) h']; exact h3 t x y h' g
/-- the class's own row, as the reference would hold it -/
def rwS (a : Ab) (d : Int) (s : Hp) : Int → Int := fun x => if 12 * d ≤ x ∧ x < 12 * d + 12 then s (dP d + 12) (x - 12 * d) else a.pick x
theorem rwS_i {s : Hp} {i : Int} (h : 0 ≤ i ∧ i < 12) : rwS a d s (12 * d + i) = s (dP d + 12) i := by
  unfold rwS; rw [if_pos (by omega), show 12 * d + i - 12 * d = i by omega]
/-- frames of the class while it ranks -/
def ktF (σ s : Hp) (d N : Int) : Prop := (∀ q : Nat, q < 116 → q ≠ dP d → q ≠ dP d + 12 → s q = σ q) ∧ (∀ j : Int, j ≠ 2 → s (dP d) j = σ (dP d) j) ∧ s (dP d) 2 = N ∧ ∀ q : Nat, 125 ≤ q → s q = σ q
theorem kt_C (W : WFA a) (hd : inD d) {N : Int} (N0 : 0 ≤ N) (N1 : N ≤ 12) {s : Hp} (h5 : ∀ i : Int, 0 ≤ i → i < N → thr a d (s (dP d + 12) i) ∧ isP a d (s (dP d + 12) i)) : pbC a d (rwS a d s) N := by
  have hd' := inD_b hd
  refine ⟨hd, N0, N1, fun i i0 i1 => by rw [rwS_i ⟨i0, by omega⟩]; exact h5 i i0 i1, fun d' i hd2 hne i0 i1 => ?_⟩
  have pb := pck_b W hd2
  unfold rwS; rw [if_neg (by omega)]
theorem kt_RS (W : WFA a) (K : WFW a) (R : ICR σ a) (hf : fok σ a n) (hd : inD d) {N : Int} (N0 : 0 ≤ N) (N1 : N ≤ 12) {s : Hp} (F : ktF σ s d N) (h5 : ∀ i : Int, 0 ≤ i → i < N → thr a d (s (dP d + 12) i) ∧ isP a d (s (dP d + 12) i)) (M : RM s a m) : RS s (pcB a d (rwS a d s) N) m n := by
  have hdp := dP_b hd
  obtain ⟨F1, F2, F3, F4⟩ := F
  have C := kt_C W hd N0 N1 h5
  refine ⟨pb_ICR W C R (fun q q1 q2 q3 => F1 q (by omega) q2 q3) F2 F3 (fun i i0 i1 => (rwS_i ⟨i0, by omega⟩).symm), ?_, (pb_RM W K).mpr M⟩
  intro d' x hd' ht hk
  have h130 : Ab.many (pcB a d (rwS a d s) N) = a.many := pb_S.1 130 (by omega)
  have h131 : Ab.kind (pcB a d (rwS a d s) N) = a.kind := pb_S.1 131 (by omega)
  simp only [thr, h130] at ht
  rw [h131] at hk
  have hdp' := dP_b hd'
  have g := hf d' x hd' ht hk
  have hP := (fPt_b g.1).2
  rw [F1 (dP d' + 11) (by omega) (by omega) (by omega)]
  refine ⟨g.1, ?_⟩
  have g2 := g.2
  unfold fHd at g2 ⊢
  rw [F4 _ (by omega), F4 _ (by omega), F4 _ (by omega), F4 _ (by omega)]
  simp only [Ab.len, Ab.what, Ab.one, Ab.two] at g2 ⊢
  rw [pb_q (q := 140) (by omega) (by omega), pb_q (q := 137) (by omega) (by omega), pb_q (q := 138) (by omega) (by omega), pb_q (q := 139) (by omega) (by omega)]
  exact g2
end

def ins (row : Int → Int) (e m : Int) : Int → Int := fun i => if i < e then row i else if i = e then m else row (i - 1)
theorem run_bel {a a' : Ab} (W : WFA a) (W' : WT a') {p m : Int} (G : grown a a' p m) {row : Int → Int} {c : Int} (C : Chn a row c) {i0 : Int} (h0 : 0 ≤ i0) (hp : row i0 = p) : ∀ (n : Nat), i0 + n < c → (∀ j : Int, i0 < j → j ≤ i0 + n → dep a 0 p < dep a 0 (row j)) → bel a p (row (i0 + n)) := by
  have c2 : ∀ i : Int, 0 ≤ i → i < c → thr a 0 (row i) ∧ isP a 0 (row i) := C 2
  have c3 : ∀ i : Int, 0 ≤ i → i + 1 < c → nxt a (row i) = row (i + 1) := C 3
  intro n
  induction n with
  | zero => intro _ _; simp only [Int.natCast_zero, Int.add_zero]; rw [hp]; exact bel_p
  | succ n ih =>
    intro hc hd
    have hb := ih (by omega) (fun j j0 j1 => hd j j0 (by omega))
    have hk := c2 (i0 + n) (by omega) (by omega)
    have hn := c3 (i0 + n) (by omega) (by omega)
    have hdn := hd (i0 + n + 1) (by omega) (by omega)
    rw [show i0 + ((n + 1 : Nat) : Int) = i0 + n + 1 by omega, ← hn]
    rcases nxt_i W W' G hk.1 hk.2 hb with g | g
    · exact g.2.2.2.1
    · rw [← hn, g.1] at hdn
      rcases clb_b W p.toNat p G.2.2.1 G.2.2.2.1 (Nat.le_refl _) with q | q
      · have hk2 := c2 (i0 + n + 1) (by omega) (by omega)
        rw [← hn, g.1, q] at hk2
        have := hk2.1.1
        omega
      · omega

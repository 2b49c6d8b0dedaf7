section
variable {σ : Hp} {a a' b : Ab} {n : Nat} {B : Int} {e : Nat} {d h z m top : Int} {row : Int → Int}
def pkA1 (a : Ab) (d h z m top : Int) : Prop := inD d ∧ (h ≠ 2 → thr a d z) ∧ (top ≠ 0 → 0 ≤ m ∧ m < a.measures)
def pkA2 (h z top : Int) : Prop := (0 ≤ h ∧ h ≤ 2) ∧ (0 ≤ top ∧ top ≤ 12) ∧ (h = 2 → 0 ≤ z ∧ z ≤ 11)
theorem pcB_pkA {T : Int} {row' : Int → Int} : pcB (pkA a row') d row T = pcB a d row T := by
  funext q j
  show (if q = 164 then row j else if q = 165 ∧ j = d then T else (if q = 164 then row' j else a q j)) = if q = 164 then row j else if q = 165 ∧ j = d then T else a q j
  by_cases g : q = 164
  · rw [if_pos g, if_pos g]
  · rw [if_neg g, if_neg g, if_neg g]
theorem MS_pb (W : WFA a) (K : WFW a) (hr : rwW a row) {s : Hp} (M : MS s (pkA a row)) (T : Int) : MS (hset s 165 d T) (pcB a d row T) := by
  have V : Vw (hset s 165 d T) (pcB a d row T) := fun q j hq => by
    by_cases g : q = 165
    · subst g
      rw [hs_if]
      show _ = if (165 : Nat) = 164 then row j else if (165 : Nat) = 165 ∧ j = d then T else a 165 j
      rw [if_neg (show ¬ (165 : Nat) = 164 by omega)]
      by_cases g2 : j = d
      · rw [if_pos g2, if_pos ⟨rfl, g2⟩]
      · rw [if_neg g2, if_neg (fun w => g2 w.2), M.1 165 j hq, pk_q (by omega)]
    · rw [hset_ne g, M.1 q j hq]
      by_cases g2 : q = 164
      · subst g2
        exact (show pkA a row 164 j = row j from if_pos rfl).trans (show pcB a d row T 164 j = row j from if_pos rfl).symm
      · rw [pk_q g2, pb_q g2 g]
  have S := pb_V (a := pkA a row) (d := d) (row := row) (k := T)
  rw [pcB_pkA] at S
  exact MS_s (pkA_W W hr) (pkA_K K) S M V (hset_ne (by omega)) (hset_ne (by omega)) (by rw [hset_ne (by omega)])
end

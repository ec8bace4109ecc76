theorem s_isWithin (x lo hi : Int32) (M : KM) : SpQ mX5_isWithin 0 0 [kI x, kI lo, kI hi] M (fun v M' => v = some (kI (if lo ≤ x ∧ x ≤ hi then 1 else 0)) ∧ M' = M) := by
  refine SpQ_of (own := 5) (ini := false) (by decide +kernel) rfl (by decide) (by decide) ?_
  intro X hC hE hL0
  refine kwX5_isWithin_0 hC hE ?_
  simp only [kbX5_isWithin_0, kblk, kstp, mX5_isWithin, kent, kpad, kcat, kget, true_and, if_false, Nat.reduceEqDiff, Nat.reduceAdd, reduceIte]
  trace_state
  sorry

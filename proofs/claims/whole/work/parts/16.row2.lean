theorem cl0 : (0 : Int32).toNatClampNeg = 0 := by decide
theorem nl0 : ¬ (0 : Int32) < 0 := by decide
theorem s_Row_copyFrom {D : KI → Nat → Int32} {G : KI → Nat → Int64} {L L2 k : Nat} {xs : List Nat} (hL : L < 2) (hL2 : L2 < 2) (hk : k < 5) (hne : L ≠ L2) (hr : rowRep D L2 k xs) (hlen : xs.length ≤ kN8 L (k + 1)) (hlen2 : xs.length ≤ kN8 L2 (k + 1)) (h91 : kN8 L (k + 1) ≤ 91) :
    SpQ mX4_copyFrom 0 0 [kR (some (4, L, k)), kR (some (4, L2, k))] (km D G) (fun v M' => v = none ∧ ∃ D', M' = km D' G ∧ rowRep D' L k xs ∧ rowOff D' D L k) := by
  refine SpQ_of (own := 4) (ini := false) (by decide +kernel) rfl (by decide) (Nat.le_of_ble_eq_true rfl) ?_
  intro X hC hE hL0
  have hlive : kLive (4, L, k) := ⟨hL, hk⟩
  have hlive8 : kLive (8, L, k + 1) := Or.inl ⟨hL, by omega⟩
  have hlive2 : kLive (4, L2, k) := ⟨hL2, hk⟩
  have hlive82 : kLive (8, L2, k + 1) := Or.inl ⟨hL2, by omega⟩
  have fin : KW X 25 [some (kR (some (4, L, k))), some (kR (some (4, L2, k)))] [kI (nI xs.length), kR (some (4, L, k))] (km D G) 0 0 := by
    refine kwX4_copyFrom_25 hC hE ?_
    simp only [kbX4_copyFrom_25, mX4_copyFrom, kblk, kstp, kent, kpad, kget, kst1, kst2, kc2, cond_false, cond_true, kfv, kfit, kOkf, kputv, kputD, kputG, kcpy, kcat, kRR, kNN, true_and, and_true, if_true, if_false, if_pos, Nat.reduceAdd, Nat.reduceEqDiff, Nat.reduceLeDiff, Nat.reduceLT, reduceIte, Prod.mk.injEq, eq_self, false_and, and_false, reduceCtorEq, Nat.reduceSub, List.reverse_cons, List.reverse_nil, List.nil_append, List.cons_append, Option.toList_some, Option.toList_none, not_true_eq_false, not_false_eq_true, hlive, hlive2, hlive8, hlive82, cl0, nl0, kroom, Nat.le_refl, Nat.zero_add]
    have e : kput D (4, L, k) 1 (nI xs.length) (4, L, k) 1 = nI xs.length := by simp [kput]
    simp only [e, nI_clamp (show xs.length < 2 ^ 31 by omega)]
    refine ⟨nI_pos (by omega), hlen2, hlen, by decide, ?_⟩
    refine ⟨⟨rfl, _, rfl, ⟨?_, fun j y hy => ?_⟩, ?_⟩, trivial, Nat.le_refl _, Nat.le_refl _⟩
    · simp [kset, kput]
    · have hj : j < xs.length := (List.getElem?_eq_some_iff.mp hy).1
      simp only [kset, kput, if_true, va_cpy, Nat.zero_le, true_and, Nat.zero_add, hj, Nat.sub_zero, Prod.mk.injEq, Nat.reduceEqDiff, false_and, if_false]
      exact hr.2 j y hy
    · intro a ha1 ha2
      funext j
      simp [kset, kput, ha1, ha2]
  refine kwX4_copyFrom_0 hC hE ?_
  simp only [kbX4_copyFrom_0, mX4_copyFrom, kblk, kstp, kent, kpad, kget, kst1, kst2, kc2, cond_false, cond_true, kfv, kfit, kOkf, kputv, kputD, kputG, kcpy, kcat, kRR, kNN, true_and, and_true, if_true, if_false, if_pos, Nat.reduceAdd, Nat.reduceEqDiff, Nat.reduceLeDiff, Nat.reduceLT, reduceIte, Prod.mk.injEq, eq_self, false_and, and_false, reduceCtorEq, Nat.reduceSub, List.reverse_cons, List.reverse_nil, List.nil_append, List.cons_append, Option.toList_some, Option.toList_none, not_true_eq_false, not_false_eq_true, hlive, hlive2, hlive8, hr.1, Nat.reduceLeDiff]
  refine ⟨fun h => ?_, fun h => ?_⟩
  · have e : xs.length = kN8 L (k + 1) := by
      rcases Nat.lt_or_ge xs.length (kN8 L (k + 1)) with h1 | h1
      · exact absurd h (nI_ge h1 (by omega))
      · omega
    refine kwX4_copyFrom_20 hC hE ?_
    simp only [kbX4_copyFrom_20, mX4_copyFrom, kblk, kstp, kent, kpad, kget, kst1, kst2, kc2, cond_false, cond_true, kfv, kfit, kOkf, kputv, kputD, kputG, kcpy, kcat, kRR, kNN, true_and, and_true, if_true, if_false, if_pos, Nat.reduceAdd, Nat.reduceEqDiff, Nat.reduceLeDiff, Nat.reduceLT, reduceIte, Prod.mk.injEq, eq_self, false_and, and_false, reduceCtorEq, Nat.reduceSub, List.reverse_cons, List.reverse_nil, List.nil_append, List.cons_append, Option.toList_some, Option.toList_none, not_true_eq_false, not_false_eq_true, hlive, hlive8]
    rw [← e]
    exact fin
  · refine kwX4_copyFrom_13 hC hE ?_
    simp only [kbX4_copyFrom_13, mX4_copyFrom, kblk, kstp, kent, kpad, kget, kst1, kst2, kc2, cond_false, cond_true, kfv, kfit, kOkf, kputv, kputD, kputG, kcpy, kcat, kRR, kNN, true_and, and_true, if_true, if_false, if_pos, Nat.reduceAdd, Nat.reduceEqDiff, Nat.reduceLeDiff, Nat.reduceLT, reduceIte, Prod.mk.injEq, eq_self, false_and, and_false, reduceCtorEq, Nat.reduceSub, List.reverse_cons, List.reverse_nil, List.nil_append, List.cons_append, Option.toList_some, Option.toList_none, not_true_eq_false, not_false_eq_true, hlive2, hr.1]
    exact fin

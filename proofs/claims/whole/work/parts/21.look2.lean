/-! Lift: the rest of what only looks. -/
section LOOK2
variable {D : KI → Nat → Int32} {G : KI → Nat → Int64} {L : Nat} {σ : KT}
theorem s_ridersTaken (hL : L < 2) (hr : kRep L D σ) (hb : kB σ) : SpQ mX3_ridersTaken 0 0 [kR (some (3, L, 0))] (km D G) (fun v M' => v = some (kI (tTaken σ)) ∧ M' = km D G) := by
  refine SpQ_of (own := 3) (ini := false) (by decide +kernel) rfl (by decide) (Nat.le_of_ble_eq_true rfl) ?_
  intro X hC hE hL0
  have hlive : kLive (3, L, 0) := ⟨hL, rfl⟩
  have hlive9 : kLive (9, L, 0) := ⟨hL, rfl⟩
  have hb1 := hb.1
  obtain ⟨⟨c5, c6, c7⟩, r4, r5, r6, r7, r8, r9, r10⟩ := hr.old
  have loop : ∀ (m i : Nat), i + m = tC σ → KW X 4 [some (kR (some (3, L, 0))), some (kI (isum (fun c => tZ σ 4 c) i)), some (kI (nI i))] [] (km D G) 0 0 := by
    intro m
    induction m with
    | zero =>
      intro i him
      have hi : i = tC σ := by omega
      subst hi
      refine kwX3_ridersTaken_4 hC hE ?_
      simp only [kbX3_ridersTaken_4, mX3_ridersTaken, kblk, kstp, kent, kpad, kget, kst1, kst2, kc2, cond_false, cond_true, kfv, kfit, kOkf, kputv, kputD, kputG, kcpy, kcat, kRR, kNN, true_and, and_true, if_true, if_false, if_pos, Nat.reduceAdd, Nat.reduceEqDiff, Nat.reduceLeDiff, Nat.reduceLT, reduceIte, Prod.mk.injEq, eq_self, false_and, and_false, reduceCtorEq, Nat.reduceSub, List.reverse_cons, List.reverse_nil, List.nil_append, List.cons_append, Option.toList_some, Option.toList_none, not_true_eq_false, not_false_eq_true, hlive, c5]
      refine ⟨fun _ => ?_, fun h => absurd (nI_le (Nat.le_refl _) (by omega)) h⟩
      refine kwX3_ridersTaken_30 hC hE ?_
      simp only [kbX3_ridersTaken_30, mX3_ridersTaken, kblk, kstp, kent, kpad, kget, kst1, kst2, kc2, cond_false, cond_true, kfv, kfit, kOkf, kputv, kputD, kputG, kcpy, kcat, kRR, kNN, true_and, and_true, if_true, if_false, if_pos, Nat.reduceAdd, Nat.reduceEqDiff, Nat.reduceLeDiff, Nat.reduceLT, reduceIte, Prod.mk.injEq, eq_self, false_and, and_false, reduceCtorEq, Nat.reduceSub, List.reverse_cons, List.reverse_nil, List.nil_append, List.cons_append, Option.toList_some, Option.toList_none, not_true_eq_false, not_false_eq_true]
      exact ⟨⟨rfl, rfl⟩, trivial, Nat.le_refl _, Nat.le_refl _⟩
    | succ m ih =>
      intro i him
      have hi : i < tC σ := by omega
      have hi20 : i < 20 := by omega
      have hli : kLive (0, L, i) := ⟨hL, hi20⟩
      have hsz := r5 i hi 4 (by decide)
      refine kwX3_ridersTaken_4 hC hE ?_
      simp only [kbX3_ridersTaken_4, mX3_ridersTaken, kblk, kstp, kent, kpad, kget, kst1, kst2, kc2, cond_false, cond_true, kfv, kfit, kOkf, kputv, kputD, kputG, kcpy, kcat, kRR, kNN, true_and, and_true, if_true, if_false, if_pos, Nat.reduceAdd, Nat.reduceEqDiff, Nat.reduceLeDiff, Nat.reduceLT, reduceIte, Prod.mk.injEq, eq_self, false_and, and_false, reduceCtorEq, Nat.reduceSub, List.reverse_cons, List.reverse_nil, List.nil_append, List.cons_append, Option.toList_some, Option.toList_none, not_true_eq_false, not_false_eq_true, hlive, c5]
      refine ⟨fun h => absurd h (nI_ge hi (by omega)), fun _ => ?_⟩
      refine kwX3_ridersTaken_12 hC hE ?_
      simp only [kbX3_ridersTaken_12, mX3_ridersTaken, kblk, kstp, kent, kpad, kget, kst1, kst2, kc2, cond_false, cond_true, kfv, kfit, kOkf, kputv, kputD, kputG, kcpy, kcat, kRR, kNN, true_and, and_true, if_true, if_false, if_pos, Nat.reduceAdd, Nat.reduceEqDiff, Nat.reduceLeDiff, Nat.reduceLT, reduceIte, Prod.mk.injEq, eq_self, false_and, and_false, reduceCtorEq, Nat.reduceSub, List.reverse_cons, List.reverse_nil, List.nil_append, List.cons_append, Option.toList_some, Option.toList_none, not_true_eq_false, not_false_eq_true, hlive, hlive9, nI_clamp (show i < 2 ^ 31 by omega), hi20, hli, hsz, true_or, or_true, nI_1]
      exact ⟨vp_in_nI hi20 (by omega), ih (i + 1) (by omega)⟩
  refine kwX3_ridersTaken_0 hC hE ?_
  simp only [kbX3_ridersTaken_0, mX3_ridersTaken, kblk, kstp, kent, kpad, kget, kst1, kst2, kc2, cond_false, cond_true, kfv, kfit, kOkf, kputv, kputD, kputG, kcpy, kcat, kRR, kNN, true_and, and_true, if_true, if_false, if_pos, Nat.reduceAdd, Nat.reduceEqDiff, Nat.reduceLeDiff, Nat.reduceLT, reduceIte, Prod.mk.injEq, eq_self, false_and, and_false, reduceCtorEq, Nat.reduceSub, List.reverse_cons, List.reverse_nil, List.nil_append, List.cons_append, Option.toList_some, Option.toList_none, not_true_eq_false, not_false_eq_true]
  exact loop (tC σ) 0 (by omega)
theorem s_coldness (hL : L < 2) (hr : kRep L D σ) (hb : kB σ) : SpQ mX3_coldness 0 0 [kR (some (3, L, 0))] (km D G) (fun v M' => v = some (kI (tCold σ)) ∧ M' = km D G) := by
  refine SpQ_of (own := 3) (ini := false) (by decide +kernel) rfl (by decide) (Nat.le_of_ble_eq_true rfl) ?_
  intro X hC hE hL0
  have hlive : kLive (3, L, 0) := ⟨hL, rfl⟩
  have hlive9 : kLive (10, L, 0) := ⟨hL, rfl⟩
  have hb1 := hb.2.2.1
  obtain ⟨⟨c5, c6, c7⟩, r4, r5, r6, r7, r8, r9, r10⟩ := hr.old
  have loop : ∀ (m i : Nat), i + m = tG σ → KW X 4 [some (kR (some (3, L, 0))), some (kI (isum (fun g => tZ σ 10 g * tZ σ 17 g) i)), some (kI (nI i))] [] (km D G) 0 0 := by
    intro m
    induction m with
    | zero =>
      intro i him
      have hi : i = tG σ := by omega
      subst hi
      refine kwX3_coldness_4 hC hE ?_
      simp only [kbX3_coldness_4, mX3_coldness, kblk, kstp, kent, kpad, kget, kst1, kst2, kc2, cond_false, cond_true, kfv, kfit, kOkf, kputv, kputD, kputG, kcpy, kcat, kRR, kNN, true_and, and_true, if_true, if_false, if_pos, Nat.reduceAdd, Nat.reduceEqDiff, Nat.reduceLeDiff, Nat.reduceLT, reduceIte, Prod.mk.injEq, eq_self, false_and, and_false, reduceCtorEq, Nat.reduceSub, List.reverse_cons, List.reverse_nil, List.nil_append, List.cons_append, Option.toList_some, Option.toList_none, not_true_eq_false, not_false_eq_true, hlive, c7]
      refine ⟨fun _ => ?_, fun h => absurd (nI_le (Nat.le_refl _) (by omega)) h⟩
      refine kwX3_coldness_40 hC hE ?_
      simp only [kbX3_coldness_40, mX3_coldness, kblk, kstp, kent, kpad, kget, kst1, kst2, kc2, cond_false, cond_true, kfv, kfit, kOkf, kputv, kputD, kputG, kcpy, kcat, kRR, kNN, true_and, and_true, if_true, if_false, if_pos, Nat.reduceAdd, Nat.reduceEqDiff, Nat.reduceLeDiff, Nat.reduceLT, reduceIte, Prod.mk.injEq, eq_self, false_and, and_false, reduceCtorEq, Nat.reduceSub, List.reverse_cons, List.reverse_nil, List.nil_append, List.cons_append, Option.toList_some, Option.toList_none, not_true_eq_false, not_false_eq_true]
      exact ⟨⟨rfl, rfl⟩, trivial, Nat.le_refl _, Nat.le_refl _⟩
    | succ m ih =>
      intro i him
      have hi : i < tG σ := by omega
      have hi91 : i < 91 := by omega
      have hli : kLive (1, L, i) := ⟨hL, hi91⟩
      have hsz := r6 i hi 0 (by decide)
      have hco := r6 i hi 7 (by decide)
      refine kwX3_coldness_4 hC hE ?_
      simp only [kbX3_coldness_4, mX3_coldness, kblk, kstp, kent, kpad, kget, kst1, kst2, kc2, cond_false, cond_true, kfv, kfit, kOkf, kputv, kputD, kputG, kcpy, kcat, kRR, kNN, true_and, and_true, if_true, if_false, if_pos, Nat.reduceAdd, Nat.reduceEqDiff, Nat.reduceLeDiff, Nat.reduceLT, reduceIte, Prod.mk.injEq, eq_self, false_and, and_false, reduceCtorEq, Nat.reduceSub, List.reverse_cons, List.reverse_nil, List.nil_append, List.cons_append, Option.toList_some, Option.toList_none, not_true_eq_false, not_false_eq_true, hlive, c7]
      refine ⟨fun h => absurd h (nI_ge hi (by omega)), fun _ => ?_⟩
      refine kwX3_coldness_12 hC hE ?_
      simp only [kbX3_coldness_12, mX3_coldness, kblk, kstp, kent, kpad, kget, kst1, kst2, kc2, cond_false, cond_true, kfv, kfit, kOkf, kputv, kputD, kputG, kcpy, kcat, kRR, kNN, true_and, and_true, if_true, if_false, if_pos, Nat.reduceAdd, Nat.reduceEqDiff, Nat.reduceLeDiff, Nat.reduceLT, reduceIte, Prod.mk.injEq, eq_self, false_and, and_false, reduceCtorEq, Nat.reduceSub, List.reverse_cons, List.reverse_nil, List.nil_append, List.cons_append, Option.toList_some, Option.toList_none, not_true_eq_false, not_false_eq_true, hlive, hlive9, nI_clamp (show i < 2 ^ 31 by omega), hi91, hli, hsz, hco, true_or, or_true, nI_1]
      exact ⟨vp_in_nI hi91 (by omega), vp_in_nI hi91 (by omega), ih (i + 1) (by omega)⟩
  refine kwX3_coldness_0 hC hE ?_
  simp only [kbX3_coldness_0, mX3_coldness, kblk, kstp, kent, kpad, kget, kst1, kst2, kc2, cond_false, cond_true, kfv, kfit, kOkf, kputv, kputD, kputG, kcpy, kcat, kRR, kNN, true_and, and_true, if_true, if_false, if_pos, Nat.reduceAdd, Nat.reduceEqDiff, Nat.reduceLeDiff, Nat.reduceLT, reduceIte, Prod.mk.injEq, eq_self, false_and, and_false, reduceCtorEq, Nat.reduceSub, List.reverse_cons, List.reverse_nil, List.nil_append, List.cons_append, Option.toList_some, Option.toList_none, not_true_eq_false, not_false_eq_true]
  exact loop (tG σ) 0 (by omega)
theorem s_peopleInQueueOf (hL : L < 2) (hr : kRep L D σ) (hb : kB σ) (p : Int32) : SpQ mX3_peopleInQueueOf 0 0 [kR (some (3, L, 0)), kI p] (km D G) (fun v M' => v = some (kI (tInQueue σ p)) ∧ M' = km D G) := by
  refine SpQ_of (own := 3) (ini := false) (by decide +kernel) rfl (by decide) (Nat.le_of_ble_eq_true rfl) ?_
  intro X hC hE hL0
  have hlive : kLive (3, L, 0) := ⟨hL, rfl⟩
  have hlive9 : kLive (10, L, 0) := ⟨hL, rfl⟩
  have hb1 := hb.2.2.1
  obtain ⟨⟨c5, c6, c7⟩, r4, r5, r6, r7, r8, r9, r10⟩ := hr.old
  have loop : ∀ (m i : Nat), i + m = tG σ → KW X 4 [some (kR (some (3, L, 0))), some (kI p), some (kI (isum (fun g => if tZ σ 13 g = p then tZ σ 10 g else 0) i)), some (kI (nI i))] [] (km D G) 0 0 := by
    intro m
    induction m with
    | zero =>
      intro i him
      have hi : i = tG σ := by omega
      subst hi
      refine kwX3_peopleInQueueOf_4 hC hE ?_
      simp only [kbX3_peopleInQueueOf_4, mX3_peopleInQueueOf, kblk, kstp, kent, kpad, kget, kst1, kst2, kc2, cond_false, cond_true, kfv, kfit, kOkf, kputv, kputD, kputG, kcpy, kcat, kRR, kNN, true_and, and_true, if_true, if_false, if_pos, Nat.reduceAdd, Nat.reduceEqDiff, Nat.reduceLeDiff, Nat.reduceLT, reduceIte, Prod.mk.injEq, eq_self, false_and, and_false, reduceCtorEq, Nat.reduceSub, List.reverse_cons, List.reverse_nil, List.nil_append, List.cons_append, Option.toList_some, Option.toList_none, not_true_eq_false, not_false_eq_true, hlive, c7]
      refine ⟨fun _ => ?_, fun h => absurd (nI_le (Nat.le_refl _) (by omega)) h⟩
      refine kwX3_peopleInQueueOf_43 hC hE ?_
      simp only [kbX3_peopleInQueueOf_43, mX3_peopleInQueueOf, kblk, kstp, kent, kpad, kget, kst1, kst2, kc2, cond_false, cond_true, kfv, kfit, kOkf, kputv, kputD, kputG, kcpy, kcat, kRR, kNN, true_and, and_true, if_true, if_false, if_pos, Nat.reduceAdd, Nat.reduceEqDiff, Nat.reduceLeDiff, Nat.reduceLT, reduceIte, Prod.mk.injEq, eq_self, false_and, and_false, reduceCtorEq, Nat.reduceSub, List.reverse_cons, List.reverse_nil, List.nil_append, List.cons_append, Option.toList_some, Option.toList_none, not_true_eq_false, not_false_eq_true]
      exact ⟨⟨rfl, rfl⟩, trivial, Nat.le_refl _, Nat.le_refl _⟩
    | succ m ih =>
      intro i him
      have hi : i < tG σ := by omega
      have hi91 : i < 91 := by omega
      have hli : kLive (1, L, i) := ⟨hL, hi91⟩
      have hst := r6 i hi 3 (by decide)
      have hsz := r6 i hi 0 (by decide)
      refine kwX3_peopleInQueueOf_4 hC hE ?_
      simp only [kbX3_peopleInQueueOf_4, mX3_peopleInQueueOf, kblk, kstp, kent, kpad, kget, kst1, kst2, kc2, cond_false, cond_true, kfv, kfit, kOkf, kputv, kputD, kputG, kcpy, kcat, kRR, kNN, true_and, and_true, if_true, if_false, if_pos, Nat.reduceAdd, Nat.reduceEqDiff, Nat.reduceLeDiff, Nat.reduceLT, reduceIte, Prod.mk.injEq, eq_self, false_and, and_false, reduceCtorEq, Nat.reduceSub, List.reverse_cons, List.reverse_nil, List.nil_append, List.cons_append, Option.toList_some, Option.toList_none, not_true_eq_false, not_false_eq_true, hlive, c7]
      refine ⟨fun h => absurd h (nI_ge hi (by omega)), fun _ => ?_⟩
      refine kwX3_peopleInQueueOf_12 hC hE ?_
      simp only [kbX3_peopleInQueueOf_12, mX3_peopleInQueueOf, kblk, kstp, kent, kpad, kget, kst1, kst2, kc2, cond_false, cond_true, kfv, kfit, kOkf, kputv, kputD, kputG, kcpy, kcat, kRR, kNN, true_and, and_true, if_true, if_false, if_pos, Nat.reduceAdd, Nat.reduceEqDiff, Nat.reduceLeDiff, Nat.reduceLT, reduceIte, Prod.mk.injEq, eq_self, false_and, and_false, reduceCtorEq, Nat.reduceSub, List.reverse_cons, List.reverse_nil, List.nil_append, List.cons_append, Option.toList_some, Option.toList_none, not_true_eq_false, not_false_eq_true, hlive, hlive9, nI_clamp (show i < 2 ^ 31 by omega), hi91, hli, hst, true_or, or_true]
      refine ⟨vp_in_nI hi91 (by omega), fun h => ?_, fun h => ?_⟩
      · refine kwX3_peopleInQueueOf_37 hC hE ?_
        simp only [kbX3_peopleInQueueOf_37, mX3_peopleInQueueOf, kblk, kstp, kent, kpad, kget, kst1, kst2, kc2, cond_false, cond_true, kfv, kfit, kOkf, kputv, kputD, kputG, kcpy, kcat, kRR, kNN, true_and, and_true, if_true, if_false, if_pos, Nat.reduceAdd, Nat.reduceEqDiff, Nat.reduceLeDiff, Nat.reduceLT, reduceIte, Prod.mk.injEq, eq_self, false_and, and_false, reduceCtorEq, Nat.reduceSub, List.reverse_cons, List.reverse_nil, List.nil_append, List.cons_append, Option.toList_some, Option.toList_none, not_true_eq_false, not_false_eq_true, nI_1]
        have := ih (i + 1) (by omega)
        simp only [isum] at this
        rw [if_neg h, Int32.add_zero] at this
        exact this
      · refine kwX3_peopleInQueueOf_25 hC hE ?_
        simp only [kbX3_peopleInQueueOf_25, mX3_peopleInQueueOf, kblk, kstp, kent, kpad, kget, kst1, kst2, kc2, cond_false, cond_true, kfv, kfit, kOkf, kputv, kputD, kputG, kcpy, kcat, kRR, kNN, true_and, and_true, if_true, if_false, if_pos, Nat.reduceAdd, Nat.reduceEqDiff, Nat.reduceLeDiff, Nat.reduceLT, reduceIte, Prod.mk.injEq, eq_self, false_and, and_false, reduceCtorEq, Nat.reduceSub, List.reverse_cons, List.reverse_nil, List.nil_append, List.cons_append, Option.toList_some, Option.toList_none, not_true_eq_false, not_false_eq_true, hlive, hlive9, nI_clamp (show i < 2 ^ 31 by omega), hi91, hli, hsz, true_or, or_true]
        refine ⟨vp_in_nI hi91 (by omega), ?_⟩
        refine kwX3_peopleInQueueOf_37 hC hE ?_
        simp only [kbX3_peopleInQueueOf_37, mX3_peopleInQueueOf, kblk, kstp, kent, kpad, kget, kst1, kst2, kc2, cond_false, cond_true, kfv, kfit, kOkf, kputv, kputD, kputG, kcpy, kcat, kRR, kNN, true_and, and_true, if_true, if_false, if_pos, Nat.reduceAdd, Nat.reduceEqDiff, Nat.reduceLeDiff, Nat.reduceLT, reduceIte, Prod.mk.injEq, eq_self, false_and, and_false, reduceCtorEq, Nat.reduceSub, List.reverse_cons, List.reverse_nil, List.nil_append, List.cons_append, Option.toList_some, Option.toList_none, not_true_eq_false, not_false_eq_true, nI_1]
        have := ih (i + 1) (by omega)
        simp only [isum] at this
        rw [if_pos h] at this
        exact this
  refine kwX3_peopleInQueueOf_0 hC hE ?_
  simp only [kbX3_peopleInQueueOf_0, mX3_peopleInQueueOf, kblk, kstp, kent, kpad, kget, kst1, kst2, kc2, cond_false, cond_true, kfv, kfit, kOkf, kputv, kputD, kputG, kcpy, kcat, kRR, kNN, true_and, and_true, if_true, if_false, if_pos, Nat.reduceAdd, Nat.reduceEqDiff, Nat.reduceLeDiff, Nat.reduceLT, reduceIte, Prod.mk.injEq, eq_self, false_and, and_false, reduceCtorEq, Nat.reduceSub, List.reverse_cons, List.reverse_nil, List.nil_append, List.cons_append, Option.toList_some, Option.toList_none, not_true_eq_false, not_false_eq_true]
  exact loop (tG σ) 0 (by omega)
theorem s_laneBehind (hL : L < 2) (hr : kRep L D σ) (p : Int32) : SpQ mX3_laneBehind 0 0 [kR (some (3, L, 0)), kI p] (km D G) (fun v M' => v = some (kI (behind σ p)) ∧ M' = km D G) := by
  refine SpQ_of (own := 3) (ini := false) (by decide +kernel) rfl (by decide) (Nat.le_of_ble_eq_true rfl) ?_
  intro X hC hE hL0
  have hlive : kLive (3, L, 0) := ⟨hL, rfl⟩
  obtain ⟨⟨c5, c6, c7⟩, r4, r5, r6, r7, r8, r9, r10⟩ := hr.old
  refine kwX3_laneBehind_0 hC hE ?_
  simp only [kbX3_laneBehind_0, mX3_laneBehind, kblk, kstp, kent, kpad, kget, kst1, kst2, kc2, cond_false, cond_true, kfv, kfit, kOkf, kputv, kputD, kputG, kcpy, kcat, kRR, kNN, true_and, and_true, if_true, if_false, if_pos, Nat.reduceAdd, Nat.reduceEqDiff, Nat.reduceLeDiff, Nat.reduceLT, reduceIte, Prod.mk.injEq, eq_self, false_and, and_false, reduceCtorEq, Nat.reduceSub, List.reverse_cons, List.reverse_nil, List.nil_append, List.cons_append, Option.toList_some, Option.toList_none, not_true_eq_false, not_false_eq_true, hlive, c6]
  refine ⟨fun h => ?_, fun h => ?_⟩
  · refine kwX3_laneBehind_16 hC hE ?_
    simp only [kbX3_laneBehind_16, mX3_laneBehind, kblk, kstp, kent, kpad, kget, kst1, kst2, kc2, cond_false, cond_true, kfv, kfit, kOkf, kputv, kputD, kputG, kcpy, kcat, kRR, kNN, true_and, and_true, if_true, if_false, if_pos, Nat.reduceAdd, Nat.reduceEqDiff, Nat.reduceLeDiff, Nat.reduceLT, reduceIte, Prod.mk.injEq, eq_self, false_and, and_false, reduceCtorEq, Nat.reduceSub, List.reverse_cons, List.reverse_nil, List.nil_append, List.cons_append, Option.toList_some, Option.toList_none, not_true_eq_false, not_false_eq_true]
    refine kwX3_laneBehind_17 hC hE ?_
    simp only [kbX3_laneBehind_17, mX3_laneBehind, kblk, kstp, kent, kpad, kget, kst1, kst2, kc2, cond_false, cond_true, kfv, kfit, kOkf, kputv, kputD, kputG, kcpy, kcat, kRR, kNN, true_and, and_true, if_true, if_false, if_pos, Nat.reduceAdd, Nat.reduceEqDiff, Nat.reduceLeDiff, Nat.reduceLT, reduceIte, Prod.mk.injEq, eq_self, false_and, and_false, reduceCtorEq, Nat.reduceSub, List.reverse_cons, List.reverse_nil, List.nil_append, List.cons_append, Option.toList_some, Option.toList_none, not_true_eq_false, not_false_eq_true]
    refine ⟨⟨?_, rfl⟩, trivial, Nat.le_refl _, Nat.le_refl _⟩
    unfold behind
    rw [if_neg (Int32.not_lt.mpr h)]
  · refine kwX3_laneBehind_10 hC hE ?_
    simp only [kbX3_laneBehind_10, mX3_laneBehind, kblk, kstp, kent, kpad, kget, kst1, kst2, kc2, cond_false, cond_true, kfv, kfit, kOkf, kputv, kputD, kputG, kcpy, kcat, kRR, kNN, true_and, and_true, if_true, if_false, if_pos, Nat.reduceAdd, Nat.reduceEqDiff, Nat.reduceLeDiff, Nat.reduceLT, reduceIte, Prod.mk.injEq, eq_self, false_and, and_false, reduceCtorEq, Nat.reduceSub, List.reverse_cons, List.reverse_nil, List.nil_append, List.cons_append, Option.toList_some, Option.toList_none, not_true_eq_false, not_false_eq_true]
    refine kwX3_laneBehind_17 hC hE ?_
    simp only [kbX3_laneBehind_17, mX3_laneBehind, kblk, kstp, kent, kpad, kget, kst1, kst2, kc2, cond_false, cond_true, kfv, kfit, kOkf, kputv, kputD, kputG, kcpy, kcat, kRR, kNN, true_and, and_true, if_true, if_false, if_pos, Nat.reduceAdd, Nat.reduceEqDiff, Nat.reduceLeDiff, Nat.reduceLT, reduceIte, Prod.mk.injEq, eq_self, false_and, and_false, reduceCtorEq, Nat.reduceSub, List.reverse_cons, List.reverse_nil, List.nil_append, List.cons_append, Option.toList_some, Option.toList_none, not_true_eq_false, not_false_eq_true]
    refine ⟨⟨?_, rfl⟩, trivial, Nat.le_refl _, Nat.le_refl _⟩
    unfold behind
    rw [if_pos (Int32.not_le.mp h)]
theorem s_ropeStands (hL : L < 2) (hr : kRep L D σ) (w : Int32) : SpQ mX3_ropeStands 0 0 [kR (some (3, L, 0)), kI w] (km D G) (fun v M' => v = some (kI (if standsT σ w then 1 else 0)) ∧ M' = km D G) := by
  refine SpQ_of (own := 3) (ini := false) (by decide +kernel) rfl (by decide) (Nat.le_of_ble_eq_true rfl) ?_
  intro X hC hE hL0
  have hlive : kLive (3, L, 0) := ⟨hL, rfl⟩
  obtain ⟨⟨c5, c6, c7⟩, r4, r5, r6, r7, r8, r9, r10⟩ := hr.old
  have hst := r4 11 (by decide) (by decide)
  have fin : ∀ (b : Int32) (M' : KM), M' = km D G → ((b = 1 ∧ tZ σ 41 0 &&& 1 = 1) ∨ (b = 0 ∧ ¬ tZ σ 41 0 &&& 1 = 1)) → KW X 15 [some (kR (some (3, L, 0))), some (kI w), none] [kI b] M' 0 0 := by
    intro b M' hM hbb
    subst hM
    refine kwX3_ropeStands_15 hC hE ?_
    simp only [kbX3_ropeStands_15, mX3_ropeStands, kblk, kstp, kent, kpad, kget, kst1, kst2, kc2, cond_false, cond_true, kfv, kfit, kOkf, kputv, kputD, kputG, kcpy, kcat, kRR, kNN, true_and, and_true, if_true, if_false, if_pos, Nat.reduceAdd, Nat.reduceEqDiff, Nat.reduceLeDiff, Nat.reduceLT, reduceIte, Prod.mk.injEq, eq_self, false_and, and_false, reduceCtorEq, Nat.reduceSub, List.reverse_cons, List.reverse_nil, List.nil_append, List.cons_append, Option.toList_some, Option.toList_none, not_true_eq_false, not_false_eq_true]
    refine ⟨fun h => ?_, fun h => ?_⟩
    · refine kwX3_ropeStands_31 hC hE ?_
      simp only [kbX3_ropeStands_31, mX3_ropeStands, kblk, kstp, kent, kpad, kget, kst1, kst2, kc2, cond_false, cond_true, kfv, kfit, kOkf, kputv, kputD, kputG, kcpy, kcat, kRR, kNN, true_and, and_true, if_true, if_false, if_pos, Nat.reduceAdd, Nat.reduceEqDiff, Nat.reduceLeDiff, Nat.reduceLT, reduceIte, Prod.mk.injEq, eq_self, false_and, and_false, reduceCtorEq, Nat.reduceSub, List.reverse_cons, List.reverse_nil, List.nil_append, List.cons_append, Option.toList_some, Option.toList_none, not_true_eq_false, not_false_eq_true]
      refine kwX3_ropeStands_36 hC hE ?_
      simp only [kbX3_ropeStands_36, mX3_ropeStands, kblk, kstp, kent, kpad, kget, kst1, kst2, kc2, cond_false, cond_true, kfv, kfit, kOkf, kputv, kputD, kputG, kcpy, kcat, kRR, kNN, true_and, and_true, if_true, if_false, if_pos, Nat.reduceAdd, Nat.reduceEqDiff, Nat.reduceLeDiff, Nat.reduceLT, reduceIte, Prod.mk.injEq, eq_self, false_and, and_false, reduceCtorEq, Nat.reduceSub, List.reverse_cons, List.reverse_nil, List.nil_append, List.cons_append, Option.toList_some, Option.toList_none, not_true_eq_false, not_false_eq_true]
      exact ⟨⟨by rw [if_pos (Or.inl h)], rfl⟩, Or.inr rfl, Nat.le_refl _, Nat.le_refl _⟩
    · refine kwX3_ropeStands_22 hC hE ?_
      simp only [kbX3_ropeStands_22, mX3_ropeStands, kblk, kstp, kent, kpad, kget, kst1, kst2, kc2, cond_false, cond_true, kfv, kfit, kOkf, kputv, kputD, kputG, kcpy, kcat, kRR, kNN, true_and, and_true, if_true, if_false, if_pos, Nat.reduceAdd, Nat.reduceEqDiff, Nat.reduceLeDiff, Nat.reduceLT, reduceIte, Prod.mk.injEq, eq_self, false_and, and_false, reduceCtorEq, Nat.reduceSub, List.reverse_cons, List.reverse_nil, List.nil_append, List.cons_append, Option.toList_some, Option.toList_none, not_true_eq_false, not_false_eq_true]
      refine ⟨fun h2 => ?_, fun h2 => ?_⟩
      · refine kwX3_ropeStands_35 hC hE ?_
        simp only [kbX3_ropeStands_35, mX3_ropeStands, kblk, kstp, kent, kpad, kget, kst1, kst2, kc2, cond_false, cond_true, kfv, kfit, kOkf, kputv, kputD, kputG, kcpy, kcat, kRR, kNN, true_and, and_true, if_true, if_false, if_pos, Nat.reduceAdd, Nat.reduceEqDiff, Nat.reduceLeDiff, Nat.reduceLT, reduceIte, Prod.mk.injEq, eq_self, false_and, and_false, reduceCtorEq, Nat.reduceSub, List.reverse_cons, List.reverse_nil, List.nil_append, List.cons_append, Option.toList_some, Option.toList_none, not_true_eq_false, not_false_eq_true]
        refine kwX3_ropeStands_36 hC hE ?_
        simp only [kbX3_ropeStands_36, mX3_ropeStands, kblk, kstp, kent, kpad, kget, kst1, kst2, kc2, cond_false, cond_true, kfv, kfit, kOkf, kputv, kputD, kputG, kcpy, kcat, kRR, kNN, true_and, and_true, if_true, if_false, if_pos, Nat.reduceAdd, Nat.reduceEqDiff, Nat.reduceLeDiff, Nat.reduceLT, reduceIte, Prod.mk.injEq, eq_self, false_and, and_false, reduceCtorEq, Nat.reduceSub, List.reverse_cons, List.reverse_nil, List.nil_append, List.cons_append, Option.toList_some, Option.toList_none, not_true_eq_false, not_false_eq_true]
        refine ⟨⟨congrArg (fun x => some (kI x)) (if_neg ?_).symm, rfl⟩, Or.inl rfl, Nat.le_refl _, Nat.le_refl _⟩
        rintro (h3 | ⟨h3, -⟩)
        · exact h h3
        · exact absurd h2 (Int32.not_lt.mpr h3)
      · refine kwX3_ropeStands_27 hC hE ?_
        simp only [kbX3_ropeStands_27, mX3_ropeStands, kblk, kstp, kent, kpad, kget, kst1, kst2, kc2, cond_false, cond_true, kfv, kfit, kOkf, kputv, kputD, kputG, kcpy, kcat, kRR, kNN, true_and, and_true, if_true, if_false, if_pos, Nat.reduceAdd, Nat.reduceEqDiff, Nat.reduceLeDiff, Nat.reduceLT, reduceIte, Prod.mk.injEq, eq_self, false_and, and_false, reduceCtorEq, Nat.reduceSub, List.reverse_cons, List.reverse_nil, List.nil_append, List.cons_append, Option.toList_some, Option.toList_none, not_true_eq_false, not_false_eq_true]
        refine ⟨fun h3 => ?_, fun h3 => ?_⟩
        · refine kwX3_ropeStands_35 hC hE ?_
          simp only [kbX3_ropeStands_35, mX3_ropeStands, kblk, kstp, kent, kpad, kget, kst1, kst2, kc2, cond_false, cond_true, kfv, kfit, kOkf, kputv, kputD, kputG, kcpy, kcat, kRR, kNN, true_and, and_true, if_true, if_false, if_pos, Nat.reduceAdd, Nat.reduceEqDiff, Nat.reduceLeDiff, Nat.reduceLT, reduceIte, Prod.mk.injEq, eq_self, false_and, and_false, reduceCtorEq, Nat.reduceSub, List.reverse_cons, List.reverse_nil, List.nil_append, List.cons_append, Option.toList_some, Option.toList_none, not_true_eq_false, not_false_eq_true]
          refine kwX3_ropeStands_36 hC hE ?_
          simp only [kbX3_ropeStands_36, mX3_ropeStands, kblk, kstp, kent, kpad, kget, kst1, kst2, kc2, cond_false, cond_true, kfv, kfit, kOkf, kputv, kputD, kputG, kcpy, kcat, kRR, kNN, true_and, and_true, if_true, if_false, if_pos, Nat.reduceAdd, Nat.reduceEqDiff, Nat.reduceLeDiff, Nat.reduceLT, reduceIte, Prod.mk.injEq, eq_self, false_and, and_false, reduceCtorEq, Nat.reduceSub, List.reverse_cons, List.reverse_nil, List.nil_append, List.cons_append, Option.toList_some, Option.toList_none, not_true_eq_false, not_false_eq_true]
          refine ⟨⟨congrArg (fun x => some (kI x)) (if_neg ?_).symm, rfl⟩, Or.inl rfl, Nat.le_refl _, Nat.le_refl _⟩
          rintro (h4 | ⟨-, h4⟩)
          · exact h h4
          · rcases hbb with ⟨h5, -⟩ | ⟨-, h5⟩
            · subst h5; exact absurd h3 (by decide)
            · exact h5 h4
        · refine kwX3_ropeStands_31 hC hE ?_
          simp only [kbX3_ropeStands_31, mX3_ropeStands, kblk, kstp, kent, kpad, kget, kst1, kst2, kc2, cond_false, cond_true, kfv, kfit, kOkf, kputv, kputD, kputG, kcpy, kcat, kRR, kNN, true_and, and_true, if_true, if_false, if_pos, Nat.reduceAdd, Nat.reduceEqDiff, Nat.reduceLeDiff, Nat.reduceLT, reduceIte, Prod.mk.injEq, eq_self, false_and, and_false, reduceCtorEq, Nat.reduceSub, List.reverse_cons, List.reverse_nil, List.nil_append, List.cons_append, Option.toList_some, Option.toList_none, not_true_eq_false, not_false_eq_true]
          refine kwX3_ropeStands_36 hC hE ?_
          simp only [kbX3_ropeStands_36, mX3_ropeStands, kblk, kstp, kent, kpad, kget, kst1, kst2, kc2, cond_false, cond_true, kfv, kfit, kOkf, kputv, kputD, kputG, kcpy, kcat, kRR, kNN, true_and, and_true, if_true, if_false, if_pos, Nat.reduceAdd, Nat.reduceEqDiff, Nat.reduceLeDiff, Nat.reduceLT, reduceIte, Prod.mk.injEq, eq_self, false_and, and_false, reduceCtorEq, Nat.reduceSub, List.reverse_cons, List.reverse_nil, List.nil_append, List.cons_append, Option.toList_some, Option.toList_none, not_true_eq_false, not_false_eq_true]
          refine ⟨⟨congrArg (fun x => some (kI x)) (if_pos ?_).symm, rfl⟩, Or.inr rfl, Nat.le_refl _, Nat.le_refl _⟩
          refine Or.inr ⟨Int32.not_lt.mp h2, ?_⟩
          rcases hbb with ⟨-, h5⟩ | ⟨h5, -⟩
          · exact h5
          · exact absurd h5 h3
  refine kwX3_ropeStands_0 hC hE ?_
  simp only [kbX3_ropeStands_0, mX3_ropeStands, kblk, kstp, kent, kpad, kget, kst1, kst2, kc2, cond_false, cond_true, kfv, kfit, kOkf, kputv, kputD, kputG, kcpy, kcat, kRR, kNN, true_and, and_true, if_true, if_false, if_pos, Nat.reduceAdd, Nat.reduceEqDiff, Nat.reduceLeDiff, Nat.reduceLT, reduceIte, Prod.mk.injEq, eq_self, false_and, and_false, reduceCtorEq, Nat.reduceSub, List.reverse_cons, List.reverse_nil, List.nil_append, List.cons_append, Option.toList_some, Option.toList_none, not_true_eq_false, not_false_eq_true, hlive, hst]
  refine ⟨fun h => ?_, fun h => ?_⟩
  · refine kwX3_ropeStands_14 hC hE ?_
    simp only [kbX3_ropeStands_14, mX3_ropeStands, kblk, kstp, kent, kpad, kget, kst1, kst2, kc2, cond_false, cond_true, kfv, kfit, kOkf, kputv, kputD, kputG, kcpy, kcat, kRR, kNN, true_and, and_true, if_true, if_false, if_pos, Nat.reduceAdd, Nat.reduceEqDiff, Nat.reduceLeDiff, Nat.reduceLT, reduceIte, Prod.mk.injEq, eq_self, false_and, and_false, reduceCtorEq, Nat.reduceSub, List.reverse_cons, List.reverse_nil, List.nil_append, List.cons_append, Option.toList_some, Option.toList_none, not_true_eq_false, not_false_eq_true]
    exact fin 0 _ rfl (Or.inr ⟨rfl, h⟩)
  · refine kwX3_ropeStands_10 hC hE ?_
    simp only [kbX3_ropeStands_10, mX3_ropeStands, kblk, kstp, kent, kpad, kget, kst1, kst2, kc2, cond_false, cond_true, kfv, kfit, kOkf, kputv, kputD, kputG, kcpy, kcat, kRR, kNN, true_and, and_true, if_true, if_false, if_pos, Nat.reduceAdd, Nat.reduceEqDiff, Nat.reduceLeDiff, Nat.reduceLT, reduceIte, Prod.mk.injEq, eq_self, false_and, and_false, reduceCtorEq, Nat.reduceSub, List.reverse_cons, List.reverse_nil, List.nil_append, List.cons_append, Option.toList_some, Option.toList_none, not_true_eq_false, not_false_eq_true]
    exact fin 1 _ rfl (Or.inl ⟨rfl, h⟩)
theorem s_laneFact (hL : L < 2) (hr : kRep L D σ) (hb : kB σ) {l what : Nat} (hl : l < tL σ) (hw : what < 4) : SpQ mX3_laneFact 0 0 [kR (some (3, L, 0)), kI (nI l), kI (nI what)] (km D G) (fun v M' => v = some (kI (tLaneFact σ l what)) ∧ M' = km D G) := by
  refine SpQ_of (own := 3) (ini := false) (by decide +kernel) rfl (by decide) (Nat.le_of_ble_eq_true rfl) ?_
  intro X hC hE hL0
  have hlive : kLive (3, L, 0) := ⟨hL, rfl⟩
  have hb2 := hb.2.1
  have hl4 : l < 4 := by omega
  have hlive9 : kLive (11, L, 0) := ⟨hL, rfl⟩
  have hlv : kLive (2, L, l) := ⟨hL, hl4⟩
  have hlv4 : kLive (4, L, l + 1) := ⟨hL, by omega⟩
  have hr0 := hr
  obtain ⟨⟨c5, c6, c7⟩, r4, r5, r6, r7, r8, r9, r10⟩ := hr.old
  have h1 := r7 l hl 1 (by decide) (by decide)
  have h2 := r7 l hl 2 (by decide) (by decide)
  have h3 := (r10 l hl).1
  refine kwX3_laneFact_0 hC hE ?_
  simp only [kbX3_laneFact_0, mX3_laneFact, kblk, kstp, kent, kpad, kget, kst1, kst2, kc2, cond_false, cond_true, kfv, kfit, kOkf, kputv, kputD, kputG, kcpy, kcat, kRR, kNN, true_and, and_true, if_true, if_false, if_pos, Nat.reduceAdd, Nat.reduceEqDiff, Nat.reduceLeDiff, Nat.reduceLT, reduceIte, Prod.mk.injEq, eq_self, false_and, and_false, reduceCtorEq, Nat.reduceSub, List.reverse_cons, List.reverse_nil, List.nil_append, List.cons_append, Option.toList_some, Option.toList_none, not_true_eq_false, not_false_eq_true, hlive, hlive9, nI_clamp (show l < 2 ^ 31 by omega), hl4, hlv, true_or, or_true, kcases, Array.toList, nI_toInt (show what < 2 ^ 31 by omega)]
  refine ⟨vp_in_nI hl4 (by omega), fun h => ?_, fun h => ?_, fun h => ?_, fun h => ?_⟩
  · have : what = 3 := by omega
    subst this
    refine kwX3_laneFact_63 hC hE ?_
    simp only [kbX3_laneFact_63, mX3_laneFact, kblk, kstp, kent, kpad, kget, kst1, kst2, kc2, cond_false, cond_true, kfv, kfit, kOkf, kputv, kputD, kputG, kcpy, kcat, kRR, kNN, true_and, and_true, if_true, if_false, if_pos, Nat.reduceAdd, Nat.reduceEqDiff, Nat.reduceLeDiff, Nat.reduceLT, reduceIte, Prod.mk.injEq, eq_self, false_and, and_false, reduceCtorEq, Nat.reduceSub, List.reverse_cons, List.reverse_nil, List.nil_append, List.cons_append, Option.toList_some, Option.toList_none, not_true_eq_false, not_false_eq_true, hlv, h2]
    exact ⟨⟨rfl, rfl⟩, trivial, Nat.le_refl _, Nat.le_refl _⟩
  · have : what = 0 := by omega
    subst this
    refine kwX3_laneFact_36 hC hE ?_
    simp only [kbX3_laneFact_36, mX3_laneFact, kblk, kstp, kent, kpad, kget, kst1, kst2, kc2, cond_false, cond_true, kfv, kfit, kOkf, kputv, kputD, kputG, kcpy, kcat, kRR, kNN, true_and, and_true, if_true, if_false, if_pos, Nat.reduceAdd, Nat.reduceEqDiff, Nat.reduceLeDiff, Nat.reduceLT, reduceIte, Prod.mk.injEq, eq_self, false_and, and_false, reduceCtorEq, Nat.reduceSub, List.reverse_cons, List.reverse_nil, List.nil_append, List.cons_append, Option.toList_some, Option.toList_none, not_true_eq_false, not_false_eq_true, hlv, hlv4, h3]
    exact ⟨⟨rfl, rfl⟩, trivial, Nat.le_refl _, Nat.le_refl _⟩
  · have : what = 1 := by omega
    subst this
    refine kwX3_laneFact_44 hC hE ?_
    simp only [kbX3_laneFact_44, mX3_laneFact, kblk, kstp, kent, kpad, kget, kst1, kst2, kc2, cond_false, cond_true, kfv, kfit, kOkf, kputv, kputD, kputG, kcpy, kcat, kRR, kNN, true_and, and_true, if_true, if_false, if_pos, Nat.reduceAdd, Nat.reduceEqDiff, Nat.reduceLeDiff, Nat.reduceLT, reduceIte, Prod.mk.injEq, eq_self, false_and, and_false, reduceCtorEq, Nat.reduceSub, List.reverse_cons, List.reverse_nil, List.nil_append, List.cons_append, Option.toList_some, Option.toList_none, not_true_eq_false, not_false_eq_true]
    refine KW_callV hC (by decide +kernel) kl3_206 (by decide) ((s_peopleInQueueOf hL hr0 hb (nI l))) rfl rfl (Nat.le_of_ble_eq_true rfl) rfl hlive (by simp [kOkL, kOkS, kOk, kLive, hL, hl4]) (by simp [kOkL, kOkS, kOk, kLive, hL, hl4]) (Nat.le_of_ble_eq_true rfl) (Nat.le_of_ble_eq_true rfl) (Nat.le_of_ble_eq_true rfl) ?_
    rintro v M' ⟨rfl, rfl⟩
    refine kwX3_laneFact_49 hC hE ?_
    simp only [kbX3_laneFact_49, mX3_laneFact, kblk, kstp, kent, kpad, kget, kst1, kst2, kc2, cond_false, cond_true, kfv, kfit, kOkf, kputv, kputD, kputG, kcpy, kcat, kRR, kNN, true_and, and_true, if_true, if_false, if_pos, Nat.reduceAdd, Nat.reduceEqDiff, Nat.reduceLeDiff, Nat.reduceLT, reduceIte, Prod.mk.injEq, eq_self, false_and, and_false, reduceCtorEq, Nat.reduceSub, List.reverse_cons, List.reverse_nil, List.nil_append, List.cons_append, Option.toList_some, Option.toList_none, not_true_eq_false, not_false_eq_true]
    exact ⟨⟨rfl, rfl⟩, trivial, Nat.le_refl _, Nat.le_refl _⟩
  · have : what = 2 := by omega
    subst this
    refine kwX3_laneFact_50 hC hE ?_
    simp only [kbX3_laneFact_50, mX3_laneFact, kblk, kstp, kent, kpad, kget, kst1, kst2, kc2, cond_false, cond_true, kfv, kfit, kOkf, kputv, kputD, kputG, kcpy, kcat, kRR, kNN, true_and, and_true, if_true, if_false, if_pos, Nat.reduceAdd, Nat.reduceEqDiff, Nat.reduceLeDiff, Nat.reduceLT, reduceIte, Prod.mk.injEq, eq_self, false_and, and_false, reduceCtorEq, Nat.reduceSub, List.reverse_cons, List.reverse_nil, List.nil_append, List.cons_append, Option.toList_some, Option.toList_none, not_true_eq_false, not_false_eq_true, hlv, h1]
    refine ⟨fun h => ?_, fun h => ?_⟩
    · refine kwX3_laneFact_61 hC hE ?_
      simp only [kbX3_laneFact_61, mX3_laneFact, kblk, kstp, kent, kpad, kget, kst1, kst2, kc2, cond_false, cond_true, kfv, kfit, kOkf, kputv, kputD, kputG, kcpy, kcat, kRR, kNN, true_and, and_true, if_true, if_false, if_pos, Nat.reduceAdd, Nat.reduceEqDiff, Nat.reduceLeDiff, Nat.reduceLT, reduceIte, Prod.mk.injEq, eq_self, false_and, and_false, reduceCtorEq, Nat.reduceSub, List.reverse_cons, List.reverse_nil, List.nil_append, List.cons_append, Option.toList_some, Option.toList_none, not_true_eq_false, not_false_eq_true]
      refine kwX3_laneFact_62 hC hE ?_
      simp only [kbX3_laneFact_62, mX3_laneFact, kblk, kstp, kent, kpad, kget, kst1, kst2, kc2, cond_false, cond_true, kfv, kfit, kOkf, kputv, kputD, kputG, kcpy, kcat, kRR, kNN, true_and, and_true, if_true, if_false, if_pos, Nat.reduceAdd, Nat.reduceEqDiff, Nat.reduceLeDiff, Nat.reduceLT, reduceIte, Prod.mk.injEq, eq_self, false_and, and_false, reduceCtorEq, Nat.reduceSub, List.reverse_cons, List.reverse_nil, List.nil_append, List.cons_append, Option.toList_some, Option.toList_none, not_true_eq_false, not_false_eq_true]
      exact ⟨⟨congrArg (fun x => some (kI x)) (show (0 : Int32) = if tZ σ 21 l = 0 then 0 else 1 from (if_pos h).symm), rfl⟩, trivial, Nat.le_refl _, Nat.le_refl _⟩
    · refine kwX3_laneFact_57 hC hE ?_
      simp only [kbX3_laneFact_57, mX3_laneFact, kblk, kstp, kent, kpad, kget, kst1, kst2, kc2, cond_false, cond_true, kfv, kfit, kOkf, kputv, kputD, kputG, kcpy, kcat, kRR, kNN, true_and, and_true, if_true, if_false, if_pos, Nat.reduceAdd, Nat.reduceEqDiff, Nat.reduceLeDiff, Nat.reduceLT, reduceIte, Prod.mk.injEq, eq_self, false_and, and_false, reduceCtorEq, Nat.reduceSub, List.reverse_cons, List.reverse_nil, List.nil_append, List.cons_append, Option.toList_some, Option.toList_none, not_true_eq_false, not_false_eq_true]
      refine kwX3_laneFact_62 hC hE ?_
      simp only [kbX3_laneFact_62, mX3_laneFact, kblk, kstp, kent, kpad, kget, kst1, kst2, kc2, cond_false, cond_true, kfv, kfit, kOkf, kputv, kputD, kputG, kcpy, kcat, kRR, kNN, true_and, and_true, if_true, if_false, if_pos, Nat.reduceAdd, Nat.reduceEqDiff, Nat.reduceLeDiff, Nat.reduceLT, reduceIte, Prod.mk.injEq, eq_self, false_and, and_false, reduceCtorEq, Nat.reduceSub, List.reverse_cons, List.reverse_nil, List.nil_append, List.cons_append, Option.toList_some, Option.toList_none, not_true_eq_false, not_false_eq_true]
      exact ⟨⟨congrArg (fun x => some (kI x)) (show (1 : Int32) = if tZ σ 21 l = 0 then 0 else 1 from (if_neg h).symm), rfl⟩, trivial, Nat.le_refl _, Nat.le_refl _⟩
theorem s_fact (hL : L < 2) (hr : kRep L D σ) (hb : kB σ) {what : Nat} (hw : what < 13) : SpQ mX3_fact 0 0 [kR (some (3, L, 0)), kI (nI what)] (km D G) (fun v M' => v = some (kI (tFact σ what)) ∧ M' = km D G) := by
  refine SpQ_of (own := 3) (ini := false) (by decide +kernel) rfl (by decide) (Nat.le_of_ble_eq_true rfl) ?_
  intro X hC hE hL0
  have hlive : kLive (3, L, 0) := ⟨hL, rfl⟩
  have hlv4 : kLive (4, L, 0) := ⟨hL, by omega⟩
  have hr0 := hr
  obtain ⟨⟨c5, c6, c7⟩, r4, r5, r6, r7, r8, r9, r10⟩ := hr.old
  have h8 := r4 8 (by decide) (by decide)
  have h10 := r4 10 (by decide) (by decide)
  have h11 := r4 11 (by decide) (by decide)
  have h12 := r4 12 (by decide) (by decide)
  refine kwX3_fact_0 hC hE ?_
  simp only [kbX3_fact_0, mX3_fact, kblk, kstp, kent, kpad, kget, kst1, kst2, kc2, cond_false, cond_true, kfv, kfit, kOkf, kputv, kputD, kputG, kcpy, kcat, kRR, kNN, true_and, and_true, if_true, if_false, if_pos, Nat.reduceAdd, Nat.reduceEqDiff, Nat.reduceLeDiff, Nat.reduceLT, reduceIte, Prod.mk.injEq, eq_self, false_and, and_false, reduceCtorEq, Nat.reduceSub, List.reverse_cons, List.reverse_nil, List.nil_append, List.cons_append, Option.toList_some, Option.toList_none, not_true_eq_false, not_false_eq_true, kcases, Array.toList, nI_toInt (show what < 2 ^ 31 by omega)]
  refine ⟨fun h => ?_, fun h => ?_, fun h => ?_, fun h => ?_, fun h => ?_, fun h => ?_, fun h => ?_, fun h => ?_, fun h => ?_, fun h => ?_, fun h => ?_, fun h => ?_, fun h => ?_⟩
  · have : what = 12 := by omega
    subst this
    refine kwX3_fact_128 hC hE ?_
    simp only [kbX3_fact_128, mX3_fact, kblk, kstp, kent, kpad, kget, kst1, kst2, kc2, cond_false, cond_true, kfv, kfit, kOkf, kputv, kputD, kputG, kcpy, kcat, kRR, kNN, true_and, and_true, if_true, if_false, if_pos, Nat.reduceAdd, Nat.reduceEqDiff, Nat.reduceLeDiff, Nat.reduceLT, reduceIte, Prod.mk.injEq, eq_self, false_and, and_false, reduceCtorEq, Nat.reduceSub, List.reverse_cons, List.reverse_nil, List.nil_append, List.cons_append, Option.toList_some, Option.toList_none, not_true_eq_false, not_false_eq_true, hlive, hlv4, c5, c6, c7, h8, h10, h11, h12]
    exact ⟨⟨rfl, rfl⟩, trivial, Nat.le_refl _, Nat.le_refl _⟩
  · have : what = 0 := by omega
    subst this
    refine kwX3_fact_64 hC hE ?_
    simp only [kbX3_fact_64, mX3_fact, kblk, kstp, kent, kpad, kget, kst1, kst2, kc2, cond_false, cond_true, kfv, kfit, kOkf, kputv, kputD, kputG, kcpy, kcat, kRR, kNN, true_and, and_true, if_true, if_false, if_pos, Nat.reduceAdd, Nat.reduceEqDiff, Nat.reduceLeDiff, Nat.reduceLT, reduceIte, Prod.mk.injEq, eq_self, false_and, and_false, reduceCtorEq, Nat.reduceSub, List.reverse_cons, List.reverse_nil, List.nil_append, List.cons_append, Option.toList_some, Option.toList_none, not_true_eq_false, not_false_eq_true, hlive, hlv4, c5, c6, c7, h8, h10, h11, h12]
    exact ⟨⟨rfl, rfl⟩, trivial, Nat.le_refl _, Nat.le_refl _⟩
  · have : what = 1 := by omega
    subst this
    refine kwX3_fact_69 hC hE ?_
    simp only [kbX3_fact_69, mX3_fact, kblk, kstp, kent, kpad, kget, kst1, kst2, kc2, cond_false, cond_true, kfv, kfit, kOkf, kputv, kputD, kputG, kcpy, kcat, kRR, kNN, true_and, and_true, if_true, if_false, if_pos, Nat.reduceAdd, Nat.reduceEqDiff, Nat.reduceLeDiff, Nat.reduceLT, reduceIte, Prod.mk.injEq, eq_self, false_and, and_false, reduceCtorEq, Nat.reduceSub, List.reverse_cons, List.reverse_nil, List.nil_append, List.cons_append, Option.toList_some, Option.toList_none, not_true_eq_false, not_false_eq_true, hlive, hlv4, c5, c6, c7, h8, h10, h11, h12]
    exact ⟨⟨rfl, rfl⟩, trivial, Nat.le_refl _, Nat.le_refl _⟩
  · have : what = 2 := by omega
    subst this
    refine kwX3_fact_74 hC hE ?_
    simp only [kbX3_fact_74, mX3_fact, kblk, kstp, kent, kpad, kget, kst1, kst2, kc2, cond_false, cond_true, kfv, kfit, kOkf, kputv, kputD, kputG, kcpy, kcat, kRR, kNN, true_and, and_true, if_true, if_false, if_pos, Nat.reduceAdd, Nat.reduceEqDiff, Nat.reduceLeDiff, Nat.reduceLT, reduceIte, Prod.mk.injEq, eq_self, false_and, and_false, reduceCtorEq, Nat.reduceSub, List.reverse_cons, List.reverse_nil, List.nil_append, List.cons_append, Option.toList_some, Option.toList_none, not_true_eq_false, not_false_eq_true, hlive, hlv4, c5, c6, c7, h8, h10, h11, h12]
    refine KW_callV hC (by decide +kernel) kl3_174 (by decide) ((s_chairsOnRope hL hr0)) rfl rfl (Nat.le_of_ble_eq_true rfl) rfl hlive (by simp [kOkL, kOkS, kOk, kLive, hL]) (by simp [kOkL, kOkS, kOk, kLive, hL]) (Nat.le_of_ble_eq_true rfl) (Nat.le_of_ble_eq_true rfl) (Nat.le_of_ble_eq_true rfl) ?_
    rintro v M' ⟨rfl, rfl⟩
    refine kwX3_fact_78 hC hE ?_
    simp only [kbX3_fact_78, mX3_fact, kblk, kstp, kent, kpad, kget, kst1, kst2, kc2, cond_false, cond_true, kfv, kfit, kOkf, kputv, kputD, kputG, kcpy, kcat, kRR, kNN, true_and, and_true, if_true, if_false, if_pos, Nat.reduceAdd, Nat.reduceEqDiff, Nat.reduceLeDiff, Nat.reduceLT, reduceIte, Prod.mk.injEq, eq_self, false_and, and_false, reduceCtorEq, Nat.reduceSub, List.reverse_cons, List.reverse_nil, List.nil_append, List.cons_append, Option.toList_some, Option.toList_none, not_true_eq_false, not_false_eq_true]
    exact ⟨⟨rfl, rfl⟩, trivial, Nat.le_refl _, Nat.le_refl _⟩
  · have : what = 3 := by omega
    subst this
    refine kwX3_fact_79 hC hE ?_
    simp only [kbX3_fact_79, mX3_fact, kblk, kstp, kent, kpad, kget, kst1, kst2, kc2, cond_false, cond_true, kfv, kfit, kOkf, kputv, kputD, kputG, kcpy, kcat, kRR, kNN, true_and, and_true, if_true, if_false, if_pos, Nat.reduceAdd, Nat.reduceEqDiff, Nat.reduceLeDiff, Nat.reduceLT, reduceIte, Prod.mk.injEq, eq_self, false_and, and_false, reduceCtorEq, Nat.reduceSub, List.reverse_cons, List.reverse_nil, List.nil_append, List.cons_append, Option.toList_some, Option.toList_none, not_true_eq_false, not_false_eq_true, hlive, hlv4, c5, c6, c7, h8, h10, h11, h12]
    exact ⟨⟨rfl, rfl⟩, trivial, Nat.le_refl _, Nat.le_refl _⟩
  · have : what = 4 := by omega
    subst this
    refine kwX3_fact_84 hC hE ?_
    simp only [kbX3_fact_84, mX3_fact, kblk, kstp, kent, kpad, kget, kst1, kst2, kc2, cond_false, cond_true, kfv, kfit, kOkf, kputv, kputD, kputG, kcpy, kcat, kRR, kNN, true_and, and_true, if_true, if_false, if_pos, Nat.reduceAdd, Nat.reduceEqDiff, Nat.reduceLeDiff, Nat.reduceLT, reduceIte, Prod.mk.injEq, eq_self, false_and, and_false, reduceCtorEq, Nat.reduceSub, List.reverse_cons, List.reverse_nil, List.nil_append, List.cons_append, Option.toList_some, Option.toList_none, not_true_eq_false, not_false_eq_true, hlive, hlv4, c5, c6, c7, h8, h10, h11, h12]
    exact ⟨⟨rfl, rfl⟩, trivial, Nat.le_refl _, Nat.le_refl _⟩
  · have : what = 5 := by omega
    subst this
    refine kwX3_fact_89 hC hE ?_
    simp only [kbX3_fact_89, mX3_fact, kblk, kstp, kent, kpad, kget, kst1, kst2, kc2, cond_false, cond_true, kfv, kfit, kOkf, kputv, kputD, kputG, kcpy, kcat, kRR, kNN, true_and, and_true, if_true, if_false, if_pos, Nat.reduceAdd, Nat.reduceEqDiff, Nat.reduceLeDiff, Nat.reduceLT, reduceIte, Prod.mk.injEq, eq_self, false_and, and_false, reduceCtorEq, Nat.reduceSub, List.reverse_cons, List.reverse_nil, List.nil_append, List.cons_append, Option.toList_some, Option.toList_none, not_true_eq_false, not_false_eq_true, hlive, hlv4, c5, c6, c7, h8, h10, h11, h12]
    refine KW_callV hC (by decide +kernel) kl3_213 (by decide) ((s_peopleWho hL hr0 hb 0)) rfl rfl (Nat.le_of_ble_eq_true rfl) rfl hlive (by simp [kOkL, kOkS, kOk, kLive, hL]) (by simp [kOkL, kOkS, kOk, kLive, hL]) (Nat.le_of_ble_eq_true rfl) (Nat.le_of_ble_eq_true rfl) (Nat.le_of_ble_eq_true rfl) ?_
    rintro v M' ⟨rfl, rfl⟩
    refine kwX3_fact_94 hC hE ?_
    simp only [kbX3_fact_94, mX3_fact, kblk, kstp, kent, kpad, kget, kst1, kst2, kc2, cond_false, cond_true, kfv, kfit, kOkf, kputv, kputD, kputG, kcpy, kcat, kRR, kNN, true_and, and_true, if_true, if_false, if_pos, Nat.reduceAdd, Nat.reduceEqDiff, Nat.reduceLeDiff, Nat.reduceLT, reduceIte, Prod.mk.injEq, eq_self, false_and, and_false, reduceCtorEq, Nat.reduceSub, List.reverse_cons, List.reverse_nil, List.nil_append, List.cons_append, Option.toList_some, Option.toList_none, not_true_eq_false, not_false_eq_true]
    exact ⟨⟨rfl, rfl⟩, trivial, Nat.le_refl _, Nat.le_refl _⟩
  · have : what = 6 := by omega
    subst this
    refine kwX3_fact_95 hC hE ?_
    simp only [kbX3_fact_95, mX3_fact, kblk, kstp, kent, kpad, kget, kst1, kst2, kc2, cond_false, cond_true, kfv, kfit, kOkf, kputv, kputD, kputG, kcpy, kcat, kRR, kNN, true_and, and_true, if_true, if_false, if_pos, Nat.reduceAdd, Nat.reduceEqDiff, Nat.reduceLeDiff, Nat.reduceLT, reduceIte, Prod.mk.injEq, eq_self, false_and, and_false, reduceCtorEq, Nat.reduceSub, List.reverse_cons, List.reverse_nil, List.nil_append, List.cons_append, Option.toList_some, Option.toList_none, not_true_eq_false, not_false_eq_true, hlive, hlv4, c5, c6, c7, h8, h10, h11, h12]
    refine KW_callV hC (by decide +kernel) kl3_213 (by decide) ((s_peopleWho hL hr0 hb 1)) rfl rfl (Nat.le_of_ble_eq_true rfl) rfl hlive (by simp [kOkL, kOkS, kOk, kLive, hL]) (by simp [kOkL, kOkS, kOk, kLive, hL]) (Nat.le_of_ble_eq_true rfl) (Nat.le_of_ble_eq_true rfl) (Nat.le_of_ble_eq_true rfl) ?_
    rintro v M' ⟨rfl, rfl⟩
    refine kwX3_fact_100 hC hE ?_
    simp only [kbX3_fact_100, mX3_fact, kblk, kstp, kent, kpad, kget, kst1, kst2, kc2, cond_false, cond_true, kfv, kfit, kOkf, kputv, kputD, kputG, kcpy, kcat, kRR, kNN, true_and, and_true, if_true, if_false, if_pos, Nat.reduceAdd, Nat.reduceEqDiff, Nat.reduceLeDiff, Nat.reduceLT, reduceIte, Prod.mk.injEq, eq_self, false_and, and_false, reduceCtorEq, Nat.reduceSub, List.reverse_cons, List.reverse_nil, List.nil_append, List.cons_append, Option.toList_some, Option.toList_none, not_true_eq_false, not_false_eq_true]
    exact ⟨⟨rfl, rfl⟩, trivial, Nat.le_refl _, Nat.le_refl _⟩
  · have : what = 7 := by omega
    subst this
    refine kwX3_fact_101 hC hE ?_
    simp only [kbX3_fact_101, mX3_fact, kblk, kstp, kent, kpad, kget, kst1, kst2, kc2, cond_false, cond_true, kfv, kfit, kOkf, kputv, kputD, kputG, kcpy, kcat, kRR, kNN, true_and, and_true, if_true, if_false, if_pos, Nat.reduceAdd, Nat.reduceEqDiff, Nat.reduceLeDiff, Nat.reduceLT, reduceIte, Prod.mk.injEq, eq_self, false_and, and_false, reduceCtorEq, Nat.reduceSub, List.reverse_cons, List.reverse_nil, List.nil_append, List.cons_append, Option.toList_some, Option.toList_none, not_true_eq_false, not_false_eq_true, hlive, hlv4, c5, c6, c7, h8, h10, h11, h12]
    refine KW_callV hC (by decide +kernel) kl3_213 (by decide) ((s_peopleWho hL hr0 hb 2)) rfl rfl (Nat.le_of_ble_eq_true rfl) rfl hlive (by simp [kOkL, kOkS, kOk, kLive, hL]) (by simp [kOkL, kOkS, kOk, kLive, hL]) (Nat.le_of_ble_eq_true rfl) (Nat.le_of_ble_eq_true rfl) (Nat.le_of_ble_eq_true rfl) ?_
    rintro v M' ⟨rfl, rfl⟩
    refine kwX3_fact_106 hC hE ?_
    simp only [kbX3_fact_106, mX3_fact, kblk, kstp, kent, kpad, kget, kst1, kst2, kc2, cond_false, cond_true, kfv, kfit, kOkf, kputv, kputD, kputG, kcpy, kcat, kRR, kNN, true_and, and_true, if_true, if_false, if_pos, Nat.reduceAdd, Nat.reduceEqDiff, Nat.reduceLeDiff, Nat.reduceLT, reduceIte, Prod.mk.injEq, eq_self, false_and, and_false, reduceCtorEq, Nat.reduceSub, List.reverse_cons, List.reverse_nil, List.nil_append, List.cons_append, Option.toList_some, Option.toList_none, not_true_eq_false, not_false_eq_true]
    exact ⟨⟨rfl, rfl⟩, trivial, Nat.le_refl _, Nat.le_refl _⟩
  · have : what = 8 := by omega
    subst this
    refine kwX3_fact_107 hC hE ?_
    simp only [kbX3_fact_107, mX3_fact, kblk, kstp, kent, kpad, kget, kst1, kst2, kc2, cond_false, cond_true, kfv, kfit, kOkf, kputv, kputD, kputG, kcpy, kcat, kRR, kNN, true_and, and_true, if_true, if_false, if_pos, Nat.reduceAdd, Nat.reduceEqDiff, Nat.reduceLeDiff, Nat.reduceLT, reduceIte, Prod.mk.injEq, eq_self, false_and, and_false, reduceCtorEq, Nat.reduceSub, List.reverse_cons, List.reverse_nil, List.nil_append, List.cons_append, Option.toList_some, Option.toList_none, not_true_eq_false, not_false_eq_true, hlive, hlv4, c5, c6, c7, h8, h10, h11, h12]
    refine KW_callV hC (by decide +kernel) kl3_213 (by decide) ((s_peopleWho hL hr0 hb 3)) rfl rfl (Nat.le_of_ble_eq_true rfl) rfl hlive (by simp [kOkL, kOkS, kOk, kLive, hL]) (by simp [kOkL, kOkS, kOk, kLive, hL]) (Nat.le_of_ble_eq_true rfl) (Nat.le_of_ble_eq_true rfl) (Nat.le_of_ble_eq_true rfl) ?_
    rintro v M' ⟨rfl, rfl⟩
    refine kwX3_fact_112 hC hE ?_
    simp only [kbX3_fact_112, mX3_fact, kblk, kstp, kent, kpad, kget, kst1, kst2, kc2, cond_false, cond_true, kfv, kfit, kOkf, kputv, kputD, kputG, kcpy, kcat, kRR, kNN, true_and, and_true, if_true, if_false, if_pos, Nat.reduceAdd, Nat.reduceEqDiff, Nat.reduceLeDiff, Nat.reduceLT, reduceIte, Prod.mk.injEq, eq_self, false_and, and_false, reduceCtorEq, Nat.reduceSub, List.reverse_cons, List.reverse_nil, List.nil_append, List.cons_append, Option.toList_some, Option.toList_none, not_true_eq_false, not_false_eq_true]
    exact ⟨⟨rfl, rfl⟩, trivial, Nat.le_refl _, Nat.le_refl _⟩
  · have : what = 9 := by omega
    subst this
    refine kwX3_fact_113 hC hE ?_
    simp only [kbX3_fact_113, mX3_fact, kblk, kstp, kent, kpad, kget, kst1, kst2, kc2, cond_false, cond_true, kfv, kfit, kOkf, kputv, kputD, kputG, kcpy, kcat, kRR, kNN, true_and, and_true, if_true, if_false, if_pos, Nat.reduceAdd, Nat.reduceEqDiff, Nat.reduceLeDiff, Nat.reduceLT, reduceIte, Prod.mk.injEq, eq_self, false_and, and_false, reduceCtorEq, Nat.reduceSub, List.reverse_cons, List.reverse_nil, List.nil_append, List.cons_append, Option.toList_some, Option.toList_none, not_true_eq_false, not_false_eq_true, hlive, hlv4, c5, c6, c7, h8, h10, h11, h12]
    exact ⟨⟨rfl, rfl⟩, trivial, Nat.le_refl _, Nat.le_refl _⟩
  · have : what = 10 := by omega
    subst this
    refine kwX3_fact_118 hC hE ?_
    simp only [kbX3_fact_118, mX3_fact, kblk, kstp, kent, kpad, kget, kst1, kst2, kc2, cond_false, cond_true, kfv, kfit, kOkf, kputv, kputD, kputG, kcpy, kcat, kRR, kNN, true_and, and_true, if_true, if_false, if_pos, Nat.reduceAdd, Nat.reduceEqDiff, Nat.reduceLeDiff, Nat.reduceLT, reduceIte, Prod.mk.injEq, eq_self, false_and, and_false, reduceCtorEq, Nat.reduceSub, List.reverse_cons, List.reverse_nil, List.nil_append, List.cons_append, Option.toList_some, Option.toList_none, not_true_eq_false, not_false_eq_true, hlive, hlv4, c5, c6, c7, h8, h10, h11, h12]
    exact ⟨⟨rfl, rfl⟩, trivial, Nat.le_refl _, Nat.le_refl _⟩
  · have : what = 11 := by omega
    subst this
    refine kwX3_fact_123 hC hE ?_
    simp only [kbX3_fact_123, mX3_fact, kblk, kstp, kent, kpad, kget, kst1, kst2, kc2, cond_false, cond_true, kfv, kfit, kOkf, kputv, kputD, kputG, kcpy, kcat, kRR, kNN, true_and, and_true, if_true, if_false, if_pos, Nat.reduceAdd, Nat.reduceEqDiff, Nat.reduceLeDiff, Nat.reduceLT, reduceIte, Prod.mk.injEq, eq_self, false_and, and_false, reduceCtorEq, Nat.reduceSub, List.reverse_cons, List.reverse_nil, List.nil_append, List.cons_append, Option.toList_some, Option.toList_none, not_true_eq_false, not_false_eq_true, hlive, hlv4, c5, c6, c7, h8, h10, h11, h12]
    refine KW_callV hC (by decide +kernel) kl3_216 (by decide) ((s_coldness hL hr0 hb)) rfl rfl (Nat.le_of_ble_eq_true rfl) rfl hlive (by simp [kOkL, kOkS, kOk, kLive, hL]) (by simp [kOkL, kOkS, kOk, kLive, hL]) (Nat.le_of_ble_eq_true rfl) (Nat.le_of_ble_eq_true rfl) (Nat.le_of_ble_eq_true rfl) ?_
    rintro v M' ⟨rfl, rfl⟩
    refine kwX3_fact_127 hC hE ?_
    simp only [kbX3_fact_127, mX3_fact, kblk, kstp, kent, kpad, kget, kst1, kst2, kc2, cond_false, cond_true, kfv, kfit, kOkf, kputv, kputD, kputG, kcpy, kcat, kRR, kNN, true_and, and_true, if_true, if_false, if_pos, Nat.reduceAdd, Nat.reduceEqDiff, Nat.reduceLeDiff, Nat.reduceLT, reduceIte, Prod.mk.injEq, eq_self, false_and, and_false, reduceCtorEq, Nat.reduceSub, List.reverse_cons, List.reverse_nil, List.nil_append, List.cons_append, Option.toList_some, Option.toList_none, not_true_eq_false, not_false_eq_true]
    exact ⟨⟨rfl, rfl⟩, trivial, Nat.le_refl _, Nat.le_refl _⟩
theorem s_Chair_fact (hL : L < 2) (hr : kRep L D σ) (hb : kB σ) {c what : Nat} (hc : c < tC σ) (hw : what < 5) : SpQ mX0_fact 0 0 [kR (some (0, L, c)), kI (nI what)] (km D G) (fun v M' => v = some (kI (tZ σ what c)) ∧ M' = km D G) := by
  refine SpQ_of (own := 0) (ini := false) (by decide +kernel) rfl (by decide) (Nat.le_of_ble_eq_true rfl) ?_
  intro X hC hE hL0
  obtain ⟨b1, b2, b3, -⟩ := hb
  have hlv : kLive (0, L, c) := ⟨hL, by omega⟩
  obtain ⟨-, r4, r5, r6, r7, r8, r9, r10⟩ := hr.old
  have key := r5 c hc
  refine kwX0_fact_0 hC hE ?_
  simp only [kbX0_fact_0, mX0_fact, kblk, kstp, kent, kpad, kget, kst1, kst2, kc2, cond_false, cond_true, kfv, kfit, kOkf, kputv, kputD, kputG, kcpy, kcat, kRR, kNN, true_and, and_true, if_true, if_false, if_pos, Nat.reduceAdd, Nat.reduceEqDiff, Nat.reduceLeDiff, Nat.reduceLT, reduceIte, Prod.mk.injEq, eq_self, false_and, and_false, reduceCtorEq, Nat.reduceSub, List.reverse_cons, List.reverse_nil, List.nil_append, List.cons_append, Option.toList_some, Option.toList_none, not_true_eq_false, not_false_eq_true, kcases, Array.toList, nI_toInt (show what < 2 ^ 31 by omega)]
  refine ⟨fun h => ?_, fun h => ?_, fun h => ?_, fun h => ?_, fun h => ?_⟩
  · have : what = 4 := by omega
    subst this
    have hk := key 4 (by decide)
    refine kwX0_fact_52 hC hE ?_
    simp only [kbX0_fact_52, mX0_fact, kblk, kstp, kent, kpad, kget, kst1, kst2, kc2, cond_false, cond_true, kfv, kfit, kOkf, kputv, kputD, kputG, kcpy, kcat, kRR, kNN, true_and, and_true, if_true, if_false, if_pos, Nat.reduceAdd, Nat.reduceEqDiff, Nat.reduceLeDiff, Nat.reduceLT, reduceIte, Prod.mk.injEq, eq_self, false_and, and_false, reduceCtorEq, Nat.reduceSub, List.reverse_cons, List.reverse_nil, List.nil_append, List.cons_append, Option.toList_some, Option.toList_none, not_true_eq_false, not_false_eq_true, hlv, hk]
    exact ⟨⟨rfl, rfl⟩, trivial, Nat.le_refl _, Nat.le_refl _⟩
  · have : what = 0 := by omega
    subst this
    have hk := key 0 (by decide)
    refine kwX0_fact_32 hC hE ?_
    simp only [kbX0_fact_32, mX0_fact, kblk, kstp, kent, kpad, kget, kst1, kst2, kc2, cond_false, cond_true, kfv, kfit, kOkf, kputv, kputD, kputG, kcpy, kcat, kRR, kNN, true_and, and_true, if_true, if_false, if_pos, Nat.reduceAdd, Nat.reduceEqDiff, Nat.reduceLeDiff, Nat.reduceLT, reduceIte, Prod.mk.injEq, eq_self, false_and, and_false, reduceCtorEq, Nat.reduceSub, List.reverse_cons, List.reverse_nil, List.nil_append, List.cons_append, Option.toList_some, Option.toList_none, not_true_eq_false, not_false_eq_true, hlv, hk]
    exact ⟨⟨rfl, rfl⟩, trivial, Nat.le_refl _, Nat.le_refl _⟩
  · have : what = 1 := by omega
    subst this
    have hk := key 1 (by decide)
    refine kwX0_fact_37 hC hE ?_
    simp only [kbX0_fact_37, mX0_fact, kblk, kstp, kent, kpad, kget, kst1, kst2, kc2, cond_false, cond_true, kfv, kfit, kOkf, kputv, kputD, kputG, kcpy, kcat, kRR, kNN, true_and, and_true, if_true, if_false, if_pos, Nat.reduceAdd, Nat.reduceEqDiff, Nat.reduceLeDiff, Nat.reduceLT, reduceIte, Prod.mk.injEq, eq_self, false_and, and_false, reduceCtorEq, Nat.reduceSub, List.reverse_cons, List.reverse_nil, List.nil_append, List.cons_append, Option.toList_some, Option.toList_none, not_true_eq_false, not_false_eq_true, hlv, hk]
    exact ⟨⟨rfl, rfl⟩, trivial, Nat.le_refl _, Nat.le_refl _⟩
  · have : what = 2 := by omega
    subst this
    have hk := key 2 (by decide)
    refine kwX0_fact_42 hC hE ?_
    simp only [kbX0_fact_42, mX0_fact, kblk, kstp, kent, kpad, kget, kst1, kst2, kc2, cond_false, cond_true, kfv, kfit, kOkf, kputv, kputD, kputG, kcpy, kcat, kRR, kNN, true_and, and_true, if_true, if_false, if_pos, Nat.reduceAdd, Nat.reduceEqDiff, Nat.reduceLeDiff, Nat.reduceLT, reduceIte, Prod.mk.injEq, eq_self, false_and, and_false, reduceCtorEq, Nat.reduceSub, List.reverse_cons, List.reverse_nil, List.nil_append, List.cons_append, Option.toList_some, Option.toList_none, not_true_eq_false, not_false_eq_true, hlv, hk]
    exact ⟨⟨rfl, rfl⟩, trivial, Nat.le_refl _, Nat.le_refl _⟩
  · have : what = 3 := by omega
    subst this
    have hk := key 3 (by decide)
    refine kwX0_fact_47 hC hE ?_
    simp only [kbX0_fact_47, mX0_fact, kblk, kstp, kent, kpad, kget, kst1, kst2, kc2, cond_false, cond_true, kfv, kfit, kOkf, kputv, kputD, kputG, kcpy, kcat, kRR, kNN, true_and, and_true, if_true, if_false, if_pos, Nat.reduceAdd, Nat.reduceEqDiff, Nat.reduceLeDiff, Nat.reduceLT, reduceIte, Prod.mk.injEq, eq_self, false_and, and_false, reduceCtorEq, Nat.reduceSub, List.reverse_cons, List.reverse_nil, List.nil_append, List.cons_append, Option.toList_some, Option.toList_none, not_true_eq_false, not_false_eq_true, hlv, hk]
    exact ⟨⟨rfl, rfl⟩, trivial, Nat.le_refl _, Nat.le_refl _⟩
theorem s_Group_fact (hL : L < 2) (hr : kRep L D σ) (hb : kB σ) {c what : Nat} (hc : c < tG σ) (hw : what < 8) : SpQ mX1_fact 0 0 [kR (some (1, L, c)), kI (nI what)] (km D G) (fun v M' => v = some (kI (tZ σ (10 + what) c)) ∧ M' = km D G) := by
  refine SpQ_of (own := 1) (ini := false) (by decide +kernel) rfl (by decide) (Nat.le_of_ble_eq_true rfl) ?_
  intro X hC hE hL0
  obtain ⟨b1, b2, b3, -⟩ := hb
  have hlv : kLive (1, L, c) := ⟨hL, by omega⟩
  obtain ⟨-, r4, r5, r6, r7, r8, r9, r10⟩ := hr.old
  have key := r6 c hc
  refine kwX1_fact_0 hC hE ?_
  simp only [kbX1_fact_0, mX1_fact, kblk, kstp, kent, kpad, kget, kst1, kst2, kc2, cond_false, cond_true, kfv, kfit, kOkf, kputv, kputD, kputG, kcpy, kcat, kRR, kNN, true_and, and_true, if_true, if_false, if_pos, Nat.reduceAdd, Nat.reduceEqDiff, Nat.reduceLeDiff, Nat.reduceLT, reduceIte, Prod.mk.injEq, eq_self, false_and, and_false, reduceCtorEq, Nat.reduceSub, List.reverse_cons, List.reverse_nil, List.nil_append, List.cons_append, Option.toList_some, Option.toList_none, not_true_eq_false, not_false_eq_true, kcases, Array.toList, nI_toInt (show what < 2 ^ 31 by omega)]
  refine ⟨fun h => ?_, fun h => ?_, fun h => ?_, fun h => ?_, fun h => ?_, fun h => ?_, fun h => ?_, fun h => ?_⟩
  · have : what = 7 := by omega
    subst this
    have hk := key 7 (by decide)
    refine kwX1_fact_79 hC hE ?_
    simp only [kbX1_fact_79, mX1_fact, kblk, kstp, kent, kpad, kget, kst1, kst2, kc2, cond_false, cond_true, kfv, kfit, kOkf, kputv, kputD, kputG, kcpy, kcat, kRR, kNN, true_and, and_true, if_true, if_false, if_pos, Nat.reduceAdd, Nat.reduceEqDiff, Nat.reduceLeDiff, Nat.reduceLT, reduceIte, Prod.mk.injEq, eq_self, false_and, and_false, reduceCtorEq, Nat.reduceSub, List.reverse_cons, List.reverse_nil, List.nil_append, List.cons_append, Option.toList_some, Option.toList_none, not_true_eq_false, not_false_eq_true, hlv, hk]
    exact ⟨⟨rfl, rfl⟩, trivial, Nat.le_refl _, Nat.le_refl _⟩
  · have : what = 0 := by omega
    subst this
    have hk := key 0 (by decide)
    refine kwX1_fact_44 hC hE ?_
    simp only [kbX1_fact_44, mX1_fact, kblk, kstp, kent, kpad, kget, kst1, kst2, kc2, cond_false, cond_true, kfv, kfit, kOkf, kputv, kputD, kputG, kcpy, kcat, kRR, kNN, true_and, and_true, if_true, if_false, if_pos, Nat.reduceAdd, Nat.reduceEqDiff, Nat.reduceLeDiff, Nat.reduceLT, reduceIte, Prod.mk.injEq, eq_self, false_and, and_false, reduceCtorEq, Nat.reduceSub, List.reverse_cons, List.reverse_nil, List.nil_append, List.cons_append, Option.toList_some, Option.toList_none, not_true_eq_false, not_false_eq_true, hlv, hk]
    exact ⟨⟨rfl, rfl⟩, trivial, Nat.le_refl _, Nat.le_refl _⟩
  · have : what = 1 := by omega
    subst this
    have hk := key 1 (by decide)
    refine kwX1_fact_49 hC hE ?_
    simp only [kbX1_fact_49, mX1_fact, kblk, kstp, kent, kpad, kget, kst1, kst2, kc2, cond_false, cond_true, kfv, kfit, kOkf, kputv, kputD, kputG, kcpy, kcat, kRR, kNN, true_and, and_true, if_true, if_false, if_pos, Nat.reduceAdd, Nat.reduceEqDiff, Nat.reduceLeDiff, Nat.reduceLT, reduceIte, Prod.mk.injEq, eq_self, false_and, and_false, reduceCtorEq, Nat.reduceSub, List.reverse_cons, List.reverse_nil, List.nil_append, List.cons_append, Option.toList_some, Option.toList_none, not_true_eq_false, not_false_eq_true, hlv, hk]
    exact ⟨⟨rfl, rfl⟩, trivial, Nat.le_refl _, Nat.le_refl _⟩
  · have : what = 2 := by omega
    subst this
    have hk := key 2 (by decide)
    refine kwX1_fact_54 hC hE ?_
    simp only [kbX1_fact_54, mX1_fact, kblk, kstp, kent, kpad, kget, kst1, kst2, kc2, cond_false, cond_true, kfv, kfit, kOkf, kputv, kputD, kputG, kcpy, kcat, kRR, kNN, true_and, and_true, if_true, if_false, if_pos, Nat.reduceAdd, Nat.reduceEqDiff, Nat.reduceLeDiff, Nat.reduceLT, reduceIte, Prod.mk.injEq, eq_self, false_and, and_false, reduceCtorEq, Nat.reduceSub, List.reverse_cons, List.reverse_nil, List.nil_append, List.cons_append, Option.toList_some, Option.toList_none, not_true_eq_false, not_false_eq_true, hlv, hk]
    exact ⟨⟨rfl, rfl⟩, trivial, Nat.le_refl _, Nat.le_refl _⟩
  · have : what = 3 := by omega
    subst this
    have hk := key 3 (by decide)
    refine kwX1_fact_59 hC hE ?_
    simp only [kbX1_fact_59, mX1_fact, kblk, kstp, kent, kpad, kget, kst1, kst2, kc2, cond_false, cond_true, kfv, kfit, kOkf, kputv, kputD, kputG, kcpy, kcat, kRR, kNN, true_and, and_true, if_true, if_false, if_pos, Nat.reduceAdd, Nat.reduceEqDiff, Nat.reduceLeDiff, Nat.reduceLT, reduceIte, Prod.mk.injEq, eq_self, false_and, and_false, reduceCtorEq, Nat.reduceSub, List.reverse_cons, List.reverse_nil, List.nil_append, List.cons_append, Option.toList_some, Option.toList_none, not_true_eq_false, not_false_eq_true, hlv, hk]
    exact ⟨⟨rfl, rfl⟩, trivial, Nat.le_refl _, Nat.le_refl _⟩
  · have : what = 4 := by omega
    subst this
    have hk := key 4 (by decide)
    refine kwX1_fact_64 hC hE ?_
    simp only [kbX1_fact_64, mX1_fact, kblk, kstp, kent, kpad, kget, kst1, kst2, kc2, cond_false, cond_true, kfv, kfit, kOkf, kputv, kputD, kputG, kcpy, kcat, kRR, kNN, true_and, and_true, if_true, if_false, if_pos, Nat.reduceAdd, Nat.reduceEqDiff, Nat.reduceLeDiff, Nat.reduceLT, reduceIte, Prod.mk.injEq, eq_self, false_and, and_false, reduceCtorEq, Nat.reduceSub, List.reverse_cons, List.reverse_nil, List.nil_append, List.cons_append, Option.toList_some, Option.toList_none, not_true_eq_false, not_false_eq_true, hlv, hk]
    exact ⟨⟨rfl, rfl⟩, trivial, Nat.le_refl _, Nat.le_refl _⟩
  · have : what = 5 := by omega
    subst this
    have hk := key 5 (by decide)
    refine kwX1_fact_69 hC hE ?_
    simp only [kbX1_fact_69, mX1_fact, kblk, kstp, kent, kpad, kget, kst1, kst2, kc2, cond_false, cond_true, kfv, kfit, kOkf, kputv, kputD, kputG, kcpy, kcat, kRR, kNN, true_and, and_true, if_true, if_false, if_pos, Nat.reduceAdd, Nat.reduceEqDiff, Nat.reduceLeDiff, Nat.reduceLT, reduceIte, Prod.mk.injEq, eq_self, false_and, and_false, reduceCtorEq, Nat.reduceSub, List.reverse_cons, List.reverse_nil, List.nil_append, List.cons_append, Option.toList_some, Option.toList_none, not_true_eq_false, not_false_eq_true, hlv, hk]
    exact ⟨⟨rfl, rfl⟩, trivial, Nat.le_refl _, Nat.le_refl _⟩
  · have : what = 6 := by omega
    subst this
    have hk := key 6 (by decide)
    refine kwX1_fact_74 hC hE ?_
    simp only [kbX1_fact_74, mX1_fact, kblk, kstp, kent, kpad, kget, kst1, kst2, kc2, cond_false, cond_true, kfv, kfit, kOkf, kputv, kputD, kputG, kcpy, kcat, kRR, kNN, true_and, and_true, if_true, if_false, if_pos, Nat.reduceAdd, Nat.reduceEqDiff, Nat.reduceLeDiff, Nat.reduceLT, reduceIte, Prod.mk.injEq, eq_self, false_and, and_false, reduceCtorEq, Nat.reduceSub, List.reverse_cons, List.reverse_nil, List.nil_append, List.cons_append, Option.toList_some, Option.toList_none, not_true_eq_false, not_false_eq_true, hlv, hk]
    exact ⟨⟨rfl, rfl⟩, trivial, Nat.le_refl _, Nat.le_refl _⟩
end LOOK2

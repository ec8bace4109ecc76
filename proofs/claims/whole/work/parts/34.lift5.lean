/-! ChairLift: looking at a chair, a group, a lane, a row; shutting; leaving. -/
section LIFT5
variable {D : KI → Nat → Int32} {G : KI → Nat → Int64} {σ : KT}
theorem b01_0 {p : Prop} [Decidable p] (h : (if p then (1 : Int32) else 0) = 0) : ¬ p := fun z => by rw [if_pos z] at h; exact absurd h (by decide)
theorem b01_1 {p : Prop} [Decidable p] (h : ¬ (if p then (1 : Int32) else 0) = 0) : p := Classical.byContradiction fun z => h (if_neg z)
theorem s_chair (hr : kRep 0 D σ) (hs : kS σ) (c w : Int32) : SpX mX5_chair 1 6 [kR (some (5, 9, 0)), kI c, kI w] (km D G) (fun v M' => (∃ i j, i < tC σ ∧ j < 5 ∧ c = nI i ∧ w = nI j ∧ v = some (kI (tZ σ j i))) ∧ M' = km D G) (fun E M' => (E = kIOE ∧ ¬ ((0 ≤ c ∧ c < nI (tC σ)) ∧ 0 ≤ w ∧ w < 5)) ∧ M' = km D G) := by
  refine SpX_of (own := 5) (by decide +kernel) rfl (Nat.le_of_ble_eq_true rfl) ?_
  intro X hC hCX hE hL0 hTw hTh
  have hx := kx_live
  have hlive : kLive (3, 0, 0) := ⟨by decide, rfl⟩
  obtain ⟨bC, bL, bG⟩ := hr.1
  have no : ¬ ((0 ≤ c ∧ c < nI (tC σ)) ∧ 0 ≤ w ∧ w < 5) → KW X 26 [some (kR (some (5, 9, 0))), some (kI c), some (kI w)] [] (km D G) 0 0 := by
    intro hn
    refine kwX5_chair_26 hC hE ?_
    simp only [kbX5_chair_26, mX5_chair, kblk, kstp, kent, kpad, kget, kst1, kst2, kc2, cond_false, cond_true, kfv, kfit, kOkf, kputv, kputD, kputG, kcpy, kcat, kRR, kNN, true_and, and_true, if_true, if_false, if_pos, Nat.reduceAdd, Nat.reduceEqDiff, Nat.reduceLeDiff, Nat.reduceLT, reduceIte, Prod.mk.injEq, eq_self, false_and, and_false, reduceCtorEq, Nat.reduceSub, List.reverse_cons, List.reverse_nil, List.nil_append, List.cons_append, Option.toList_some, Option.toList_none, not_true_eq_false, not_false_eq_true]
    refine KW_callSX hC hCX (by decide +kernel) kl5_58 (by decide) ((s_requireIndex (km D G) 0)) rfl rfl (by simp [kOkL, kOk, hx]) (by simp [kOkS]) (Nat.le_of_ble_eq_true rfl) (Nat.le_of_ble_eq_true rfl) (Nat.le_of_ble_eq_true rfl) ?_ ?_
    · rintro v M' ⟨rfl, rfl, h⟩
      exact absurd rfl h
    · rintro E M' ⟨rfl, rfl, h⟩
      exact hTw _ _ _ _ _ ⟨⟨rfl, hn⟩, rfl⟩ (Nat.le_refl _) (Nat.le_refl _)
  have c5 := hr.old.1.1
  refine kwX5_chair_0 hC hE ?_
  simp only [kbX5_chair_0, mX5_chair, kblk, kstp, kent, kpad, kget, kst1, kst2, kc2, cond_false, cond_true, kfv, kfit, kOkf, kputv, kputD, kputG, kcpy, kcat, kRR, kNN, true_and, and_true, if_true, if_false, if_pos, Nat.reduceAdd, Nat.reduceEqDiff, Nat.reduceLeDiff, Nat.reduceLT, reduceIte, Prod.mk.injEq, eq_self, false_and, and_false, reduceCtorEq, Nat.reduceSub, List.reverse_cons, List.reverse_nil, List.nil_append, List.cons_append, Option.toList_some, Option.toList_none, not_true_eq_false, not_false_eq_true, hx, hlive, c5]
  refine KW_callS hC (by decide +kernel) kl5_71 (by decide) ((s_isBelow (km D G) c (nI (tC σ)))) rfl rfl (by simp [kOkL, kOk, hx]) (by simp [kOkS]) (Nat.le_of_ble_eq_true rfl) (Nat.le_of_ble_eq_true rfl) (Nat.le_of_ble_eq_true rfl) ?_
  rintro v M' ⟨rfl, rfl⟩
  refine kwX5_chair_11 hC hE ?_
  simp only [kbX5_chair_11, mX5_chair, kblk, kstp, kent, kpad, kget, kst1, kst2, kc2, cond_false, cond_true, kfv, kfit, kOkf, kputv, kputD, kputG, kcpy, kcat, kRR, kNN, true_and, and_true, if_true, if_false, if_pos, Nat.reduceAdd, Nat.reduceEqDiff, Nat.reduceLeDiff, Nat.reduceLT, reduceIte, Prod.mk.injEq, eq_self, false_and, and_false, reduceCtorEq, Nat.reduceSub, List.reverse_cons, List.reverse_nil, List.nil_append, List.cons_append, Option.toList_some, Option.toList_none, not_true_eq_false, not_false_eq_true]
  refine ⟨fun h => no (fun z => b01_0 h z.1), fun h => ?_⟩
  have h1 := b01_1 h
  refine kwX5_chair_14 hC hE ?_
  simp only [kbX5_chair_14, mX5_chair, kblk, kstp, kent, kpad, kget, kst1, kst2, kc2, cond_false, cond_true, kfv, kfit, kOkf, kputv, kputD, kputG, kcpy, kcat, kRR, kNN, true_and, and_true, if_true, if_false, if_pos, Nat.reduceAdd, Nat.reduceEqDiff, Nat.reduceLeDiff, Nat.reduceLT, reduceIte, Prod.mk.injEq, eq_self, false_and, and_false, reduceCtorEq, Nat.reduceSub, List.reverse_cons, List.reverse_nil, List.nil_append, List.cons_append, Option.toList_some, Option.toList_none, not_true_eq_false, not_false_eq_true]
  refine KW_callS hC (by decide +kernel) kl5_71 (by decide) ((s_isBelow (km D G) w 5)) rfl rfl (by simp [kOkL, kOk, hx]) (by simp [kOkS]) (Nat.le_of_ble_eq_true rfl) (Nat.le_of_ble_eq_true rfl) (Nat.le_of_ble_eq_true rfl) ?_
  rintro v M' ⟨rfl, rfl⟩
  refine kwX5_chair_19 hC hE ?_
  simp only [kbX5_chair_19, mX5_chair, kblk, kstp, kent, kpad, kget, kst1, kst2, kc2, cond_false, cond_true, kfv, kfit, kOkf, kputv, kputD, kputG, kcpy, kcat, kRR, kNN, true_and, and_true, if_true, if_false, if_pos, Nat.reduceAdd, Nat.reduceEqDiff, Nat.reduceLeDiff, Nat.reduceLT, reduceIte, Prod.mk.injEq, eq_self, false_and, and_false, reduceCtorEq, Nat.reduceSub, List.reverse_cons, List.reverse_nil, List.nil_append, List.cons_append, Option.toList_some, Option.toList_none, not_true_eq_false, not_false_eq_true]
  refine ⟨fun h => no (fun z => b01_0 h z.2), fun h => ?_⟩
  have h2 := b01_1 h
  refine kwX5_chair_22 hC hE ?_
  simp only [kbX5_chair_22, mX5_chair, kblk, kstp, kent, kpad, kget, kst1, kst2, kc2, cond_false, cond_true, kfv, kfit, kOkf, kputv, kputD, kputG, kcpy, kcat, kRR, kNN, true_and, and_true, if_true, if_false, if_pos, Nat.reduceAdd, Nat.reduceEqDiff, Nat.reduceLeDiff, Nat.reduceLT, reduceIte, Prod.mk.injEq, eq_self, false_and, and_false, reduceCtorEq, Nat.reduceSub, List.reverse_cons, List.reverse_nil, List.nil_append, List.cons_append, Option.toList_some, Option.toList_none, not_true_eq_false, not_false_eq_true]
  refine KW_callSX hC hCX (by decide +kernel) kl5_58 (by decide) ((s_requireIndex (km D G) 1)) rfl rfl (by simp [kOkL, kOk, hx]) (by simp [kOkS]) (Nat.le_of_ble_eq_true rfl) (Nat.le_of_ble_eq_true rfl) (Nat.le_of_ble_eq_true rfl) ?_ ?_
  · rintro v M' ⟨rfl, rfl, h⟩
    obtain ⟨i, hi, rfl⟩ := in_range (by omega) h1
    obtain ⟨j, hj, rfl⟩ := in_range (n := 5) (by decide) h2
    have hi20 : i < 20 := by omega
    have hc9 : kLive (9, 0, 0) := ⟨by decide, rfl⟩
    have hlc : kLive (0, 0, i) := ⟨by decide, hi20⟩
    refine kwX5_chair_30 hC hE ?_
    simp only [kbX5_chair_30, mX5_chair, kblk, kstp, kent, kpad, kget, kst1, kst2, kc2, cond_false, cond_true, kfv, kfit, kOkf, kputv, kputD, kputG, kcpy, kcat, kRR, kNN, true_and, and_true, if_true, if_false, if_pos, Nat.reduceAdd, Nat.reduceEqDiff, Nat.reduceLeDiff, Nat.reduceLT, reduceIte, Prod.mk.injEq, eq_self, false_and, and_false, reduceCtorEq, Nat.reduceSub, List.reverse_cons, List.reverse_nil, List.nil_append, List.cons_append, Option.toList_some, Option.toList_none, not_true_eq_false, not_false_eq_true, hx, hlive, hc9, hlc, nI_clamp (show i < 2 ^ 31 by omega), hi20, true_or, or_true]
    refine ⟨vp_in_nI hi20 (by omega), ?_⟩
    refine KW_callV hC (by decide +kernel) kl5_128 (by decide) ((s_Chair_fact (by decide) hr hs.1 hi hj)) rfl rfl (Nat.le_of_ble_eq_true rfl) rfl hlc (by simp [kOkL, kOk, hx]) (by simp [kOkS]) (Nat.le_of_ble_eq_true rfl) (Nat.le_of_ble_eq_true rfl) (Nat.le_of_ble_eq_true rfl) ?_
    rintro v M' ⟨rfl, rfl⟩
    refine kwX5_chair_43 hC hE ?_
    simp only [kbX5_chair_43, mX5_chair, kblk, kstp, kent, kpad, kget, kst1, kst2, kc2, cond_false, cond_true, kfv, kfit, kOkf, kputv, kputD, kputG, kcpy, kcat, kRR, kNN, true_and, and_true, if_true, if_false, if_pos, Nat.reduceAdd, Nat.reduceEqDiff, Nat.reduceLeDiff, Nat.reduceLT, reduceIte, Prod.mk.injEq, eq_self, false_and, and_false, reduceCtorEq, Nat.reduceSub, List.reverse_cons, List.reverse_nil, List.nil_append, List.cons_append, Option.toList_some, Option.toList_none, not_true_eq_false, not_false_eq_true]
    exact ⟨⟨⟨i, j, hi, hj, rfl, rfl, rfl⟩, rfl⟩, trivial, Nat.le_refl _, Nat.le_refl _⟩
  · rintro E M' ⟨rfl, rfl, h⟩
    exact absurd h (by decide)
theorem s_group (hr : kRep 0 D σ) (hs : kS σ) (c w : Int32) : SpX mX5_group 1 6 [kR (some (5, 9, 0)), kI c, kI w] (km D G) (fun v M' => (∃ i j, i < tG σ ∧ j < 8 ∧ c = nI i ∧ w = nI j ∧ v = some (kI (tZ σ (10 + j) i))) ∧ M' = km D G) (fun E M' => (E = kIOE ∧ ¬ ((0 ≤ c ∧ c < nI (tG σ)) ∧ 0 ≤ w ∧ w < 8)) ∧ M' = km D G) := by
  refine SpX_of (own := 5) (by decide +kernel) rfl (Nat.le_of_ble_eq_true rfl) ?_
  intro X hC hCX hE hL0 hTw hTh
  have hx := kx_live
  have hlive : kLive (3, 0, 0) := ⟨by decide, rfl⟩
  obtain ⟨bC, bL, bG⟩ := hr.1
  have no : ¬ ((0 ≤ c ∧ c < nI (tG σ)) ∧ 0 ≤ w ∧ w < 8) → KW X 21 [some (kR (some (5, 9, 0))), some (kI c), some (kI w)] [] (km D G) 0 0 := by
    intro hn
    refine kwX5_group_21 hC hE ?_
    simp only [kbX5_group_21, mX5_group, kblk, kstp, kent, kpad, kget, kst1, kst2, kc2, cond_false, cond_true, kfv, kfit, kOkf, kputv, kputD, kputG, kcpy, kcat, kRR, kNN, true_and, and_true, if_true, if_false, if_pos, Nat.reduceAdd, Nat.reduceEqDiff, Nat.reduceLeDiff, Nat.reduceLT, reduceIte, Prod.mk.injEq, eq_self, false_and, and_false, reduceCtorEq, Nat.reduceSub, List.reverse_cons, List.reverse_nil, List.nil_append, List.cons_append, Option.toList_some, Option.toList_none, not_true_eq_false, not_false_eq_true]
    refine KW_callSX hC hCX (by decide +kernel) kl5_58 (by decide) ((s_requireIndex (km D G) 0)) rfl rfl (by simp [kOkL, kOk, hx]) (by simp [kOkS]) (Nat.le_of_ble_eq_true rfl) (Nat.le_of_ble_eq_true rfl) (Nat.le_of_ble_eq_true rfl) ?_ ?_
    · rintro v M' ⟨rfl, rfl, h⟩
      exact absurd rfl h
    · rintro E M' ⟨rfl, rfl, h⟩
      exact hTw _ _ _ _ _ ⟨⟨rfl, hn⟩, rfl⟩ (Nat.le_refl _) (Nat.le_refl _)
  refine kwX5_group_0 hC hE ?_
  simp only [kbX5_group_0, mX5_group, kblk, kstp, kent, kpad, kget, kst1, kst2, kc2, cond_false, cond_true, kfv, kfit, kOkf, kputv, kputD, kputG, kcpy, kcat, kRR, kNN, true_and, and_true, if_true, if_false, if_pos, Nat.reduceAdd, Nat.reduceEqDiff, Nat.reduceLeDiff, Nat.reduceLT, reduceIte, Prod.mk.injEq, eq_self, false_and, and_false, reduceCtorEq, Nat.reduceSub, List.reverse_cons, List.reverse_nil, List.nil_append, List.cons_append, Option.toList_some, Option.toList_none, not_true_eq_false, not_false_eq_true]
  refine KW_callV hC (by decide +kernel) kl5_86 (by decide) ((s_isGroup hr c)) rfl rfl (Nat.le_of_ble_eq_true rfl) rfl hx (by simp [kOkL, kOk, hx]) (by simp [kOkS]) (Nat.le_of_ble_eq_true rfl) (Nat.le_of_ble_eq_true rfl) (Nat.le_of_ble_eq_true rfl) ?_
  rintro v M' ⟨rfl, rfl⟩
  refine kwX5_group_5 hC hE ?_
  simp only [kbX5_group_5, mX5_group, kblk, kstp, kent, kpad, kget, kst1, kst2, kc2, cond_false, cond_true, kfv, kfit, kOkf, kputv, kputD, kputG, kcpy, kcat, kRR, kNN, true_and, and_true, if_true, if_false, if_pos, Nat.reduceAdd, Nat.reduceEqDiff, Nat.reduceLeDiff, Nat.reduceLT, reduceIte, Prod.mk.injEq, eq_self, false_and, and_false, reduceCtorEq, Nat.reduceSub, List.reverse_cons, List.reverse_nil, List.nil_append, List.cons_append, Option.toList_some, Option.toList_none, not_true_eq_false, not_false_eq_true]
  refine ⟨fun h => no (fun z => b01_0 h z.1), fun h => ?_⟩
  have h1 := b01_1 h
  refine kwX5_group_8 hC hE ?_
  simp only [kbX5_group_8, mX5_group, kblk, kstp, kent, kpad, kget, kst1, kst2, kc2, cond_false, cond_true, kfv, kfit, kOkf, kputv, kputD, kputG, kcpy, kcat, kRR, kNN, true_and, and_true, if_true, if_false, if_pos, Nat.reduceAdd, Nat.reduceEqDiff, Nat.reduceLeDiff, Nat.reduceLT, reduceIte, Prod.mk.injEq, eq_self, false_and, and_false, reduceCtorEq, Nat.reduceSub, List.reverse_cons, List.reverse_nil, List.nil_append, List.cons_append, Option.toList_some, Option.toList_none, not_true_eq_false, not_false_eq_true]
  refine KW_callS hC (by decide +kernel) kl5_71 (by decide) ((s_isBelow (km D G) w 8)) rfl rfl (by simp [kOkL, kOk, hx]) (by simp [kOkS]) (Nat.le_of_ble_eq_true rfl) (Nat.le_of_ble_eq_true rfl) (Nat.le_of_ble_eq_true rfl) ?_
  rintro v M' ⟨rfl, rfl⟩
  refine kwX5_group_14 hC hE ?_
  simp only [kbX5_group_14, mX5_group, kblk, kstp, kent, kpad, kget, kst1, kst2, kc2, cond_false, cond_true, kfv, kfit, kOkf, kputv, kputD, kputG, kcpy, kcat, kRR, kNN, true_and, and_true, if_true, if_false, if_pos, Nat.reduceAdd, Nat.reduceEqDiff, Nat.reduceLeDiff, Nat.reduceLT, reduceIte, Prod.mk.injEq, eq_self, false_and, and_false, reduceCtorEq, Nat.reduceSub, List.reverse_cons, List.reverse_nil, List.nil_append, List.cons_append, Option.toList_some, Option.toList_none, not_true_eq_false, not_false_eq_true]
  refine ⟨fun h => no (fun z => b01_0 h z.2), fun h => ?_⟩
  have h2 := b01_1 h
  refine kwX5_group_17 hC hE ?_
  simp only [kbX5_group_17, mX5_group, kblk, kstp, kent, kpad, kget, kst1, kst2, kc2, cond_false, cond_true, kfv, kfit, kOkf, kputv, kputD, kputG, kcpy, kcat, kRR, kNN, true_and, and_true, if_true, if_false, if_pos, Nat.reduceAdd, Nat.reduceEqDiff, Nat.reduceLeDiff, Nat.reduceLT, reduceIte, Prod.mk.injEq, eq_self, false_and, and_false, reduceCtorEq, Nat.reduceSub, List.reverse_cons, List.reverse_nil, List.nil_append, List.cons_append, Option.toList_some, Option.toList_none, not_true_eq_false, not_false_eq_true]
  refine KW_callSX hC hCX (by decide +kernel) kl5_58 (by decide) ((s_requireIndex (km D G) 1)) rfl rfl (by simp [kOkL, kOk, hx]) (by simp [kOkS]) (Nat.le_of_ble_eq_true rfl) (Nat.le_of_ble_eq_true rfl) (Nat.le_of_ble_eq_true rfl) ?_ ?_
  · rintro v M' ⟨rfl, rfl, h⟩
    obtain ⟨i, hi, rfl⟩ := in_range (by omega) h1
    obtain ⟨j, hj, rfl⟩ := in_range (n := 8) (by decide) h2
    have hi91 : i < 91 := by omega
    have hc9 : kLive (10, 0, 0) := ⟨by decide, rfl⟩
    have hlc : kLive (1, 0, i) := ⟨by decide, hi91⟩
    refine kwX5_group_25 hC hE ?_
    simp only [kbX5_group_25, mX5_group, kblk, kstp, kent, kpad, kget, kst1, kst2, kc2, cond_false, cond_true, kfv, kfit, kOkf, kputv, kputD, kputG, kcpy, kcat, kRR, kNN, true_and, and_true, if_true, if_false, if_pos, Nat.reduceAdd, Nat.reduceEqDiff, Nat.reduceLeDiff, Nat.reduceLT, reduceIte, Prod.mk.injEq, eq_self, false_and, and_false, reduceCtorEq, Nat.reduceSub, List.reverse_cons, List.reverse_nil, List.nil_append, List.cons_append, Option.toList_some, Option.toList_none, not_true_eq_false, not_false_eq_true, hx, hlive, hc9, hlc, nI_clamp (show i < 2 ^ 31 by omega), hi91, true_or, or_true]
    refine ⟨vp_in_nI hi91 (by omega), ?_⟩
    refine KW_callV hC (by decide +kernel) kl5_121 (by decide) ((s_Group_fact (by decide) hr hs.1 hi hj)) rfl rfl (Nat.le_of_ble_eq_true rfl) rfl hlc (by simp [kOkL, kOk, hx]) (by simp [kOkS]) (Nat.le_of_ble_eq_true rfl) (Nat.le_of_ble_eq_true rfl) (Nat.le_of_ble_eq_true rfl) ?_
    rintro v M' ⟨rfl, rfl⟩
    refine kwX5_group_38 hC hE ?_
    simp only [kbX5_group_38, mX5_group, kblk, kstp, kent, kpad, kget, kst1, kst2, kc2, cond_false, cond_true, kfv, kfit, kOkf, kputv, kputD, kputG, kcpy, kcat, kRR, kNN, true_and, and_true, if_true, if_false, if_pos, Nat.reduceAdd, Nat.reduceEqDiff, Nat.reduceLeDiff, Nat.reduceLT, reduceIte, Prod.mk.injEq, eq_self, false_and, and_false, reduceCtorEq, Nat.reduceSub, List.reverse_cons, List.reverse_nil, List.nil_append, List.cons_append, Option.toList_some, Option.toList_none, not_true_eq_false, not_false_eq_true]
    exact ⟨⟨⟨i, j, hi, hj, rfl, rfl, rfl⟩, rfl⟩, trivial, Nat.le_refl _, Nat.le_refl _⟩
  · rintro E M' ⟨rfl, rfl, h⟩
    exact absurd h (by decide)
theorem s_lane (hr : kRep 0 D σ) (hs : kS σ) (c w : Int32) : SpX mX5_lane 1 6 [kR (some (5, 9, 0)), kI c, kI w] (km D G) (fun v M' => (∃ i j, i < tL σ ∧ j < 4 ∧ c = nI i ∧ w = nI j ∧ v = some (kI (tLaneFact σ i j))) ∧ M' = km D G) (fun E M' => (E = kIOE ∧ ¬ ((0 ≤ c ∧ c < nI (tL σ)) ∧ 0 ≤ w ∧ w < 4)) ∧ M' = km D G) := by
  refine SpX_of (own := 5) (by decide +kernel) rfl (Nat.le_of_ble_eq_true rfl) ?_
  intro X hC hCX hE hL0 hTw hTh
  have hx := kx_live
  have hlive : kLive (3, 0, 0) := ⟨by decide, rfl⟩
  obtain ⟨bC, bL, bG⟩ := hr.1
  have no : ¬ ((0 ≤ c ∧ c < nI (tL σ)) ∧ 0 ≤ w ∧ w < 4) → KW X 20 [some (kR (some (5, 9, 0))), some (kI c), some (kI w)] [] (km D G) 0 0 := by
    intro hn
    refine kwX5_lane_20 hC hE ?_
    simp only [kbX5_lane_20, mX5_lane, kblk, kstp, kent, kpad, kget, kst1, kst2, kc2, cond_false, cond_true, kfv, kfit, kOkf, kputv, kputD, kputG, kcpy, kcat, kRR, kNN, true_and, and_true, if_true, if_false, if_pos, Nat.reduceAdd, Nat.reduceEqDiff, Nat.reduceLeDiff, Nat.reduceLT, reduceIte, Prod.mk.injEq, eq_self, false_and, and_false, reduceCtorEq, Nat.reduceSub, List.reverse_cons, List.reverse_nil, List.nil_append, List.cons_append, Option.toList_some, Option.toList_none, not_true_eq_false, not_false_eq_true]
    refine KW_callSX hC hCX (by decide +kernel) kl5_58 (by decide) ((s_requireIndex (km D G) 0)) rfl rfl (by simp [kOkL, kOk, hx]) (by simp [kOkS]) (Nat.le_of_ble_eq_true rfl) (Nat.le_of_ble_eq_true rfl) (Nat.le_of_ble_eq_true rfl) ?_ ?_
    · rintro v M' ⟨rfl, rfl, h⟩
      exact absurd rfl h
    · rintro E M' ⟨rfl, rfl, h⟩
      exact hTw _ _ _ _ _ ⟨⟨rfl, hn⟩, rfl⟩ (Nat.le_refl _) (Nat.le_refl _)
  refine kwX5_lane_0 hC hE ?_
  simp only [kbX5_lane_0, mX5_lane, kblk, kstp, kent, kpad, kget, kst1, kst2, kc2, cond_false, cond_true, kfv, kfit, kOkf, kputv, kputD, kputG, kcpy, kcat, kRR, kNN, true_and, and_true, if_true, if_false, if_pos, Nat.reduceAdd, Nat.reduceEqDiff, Nat.reduceLeDiff, Nat.reduceLT, reduceIte, Prod.mk.injEq, eq_self, false_and, and_false, reduceCtorEq, Nat.reduceSub, List.reverse_cons, List.reverse_nil, List.nil_append, List.cons_append, Option.toList_some, Option.toList_none, not_true_eq_false, not_false_eq_true]
  refine KW_callV hC (by decide +kernel) kl5_54 (by decide) ((s_isLane hr c)) rfl rfl (Nat.le_of_ble_eq_true rfl) rfl hx (by simp [kOkL, kOk, hx]) (by simp [kOkS]) (Nat.le_of_ble_eq_true rfl) (Nat.le_of_ble_eq_true rfl) (Nat.le_of_ble_eq_true rfl) ?_
  rintro v M' ⟨rfl, rfl⟩
  refine kwX5_lane_5 hC hE ?_
  simp only [kbX5_lane_5, mX5_lane, kblk, kstp, kent, kpad, kget, kst1, kst2, kc2, cond_false, cond_true, kfv, kfit, kOkf, kputv, kputD, kputG, kcpy, kcat, kRR, kNN, true_and, and_true, if_true, if_false, if_pos, Nat.reduceAdd, Nat.reduceEqDiff, Nat.reduceLeDiff, Nat.reduceLT, reduceIte, Prod.mk.injEq, eq_self, false_and, and_false, reduceCtorEq, Nat.reduceSub, List.reverse_cons, List.reverse_nil, List.nil_append, List.cons_append, Option.toList_some, Option.toList_none, not_true_eq_false, not_false_eq_true]
  refine ⟨fun h => no (fun z => b01_0 h z.1), fun h => ?_⟩
  have h1 := b01_1 h
  refine kwX5_lane_8 hC hE ?_
  simp only [kbX5_lane_8, mX5_lane, kblk, kstp, kent, kpad, kget, kst1, kst2, kc2, cond_false, cond_true, kfv, kfit, kOkf, kputv, kputD, kputG, kcpy, kcat, kRR, kNN, true_and, and_true, if_true, if_false, if_pos, Nat.reduceAdd, Nat.reduceEqDiff, Nat.reduceLeDiff, Nat.reduceLT, reduceIte, Prod.mk.injEq, eq_self, false_and, and_false, reduceCtorEq, Nat.reduceSub, List.reverse_cons, List.reverse_nil, List.nil_append, List.cons_append, Option.toList_some, Option.toList_none, not_true_eq_false, not_false_eq_true]
  refine KW_callS hC (by decide +kernel) kl5_71 (by decide) ((s_isBelow (km D G) w 4)) rfl rfl (by simp [kOkL, kOk, hx]) (by simp [kOkS]) (Nat.le_of_ble_eq_true rfl) (Nat.le_of_ble_eq_true rfl) (Nat.le_of_ble_eq_true rfl) ?_
  rintro v M' ⟨rfl, rfl⟩
  refine kwX5_lane_13 hC hE ?_
  simp only [kbX5_lane_13, mX5_lane, kblk, kstp, kent, kpad, kget, kst1, kst2, kc2, cond_false, cond_true, kfv, kfit, kOkf, kputv, kputD, kputG, kcpy, kcat, kRR, kNN, true_and, and_true, if_true, if_false, if_pos, Nat.reduceAdd, Nat.reduceEqDiff, Nat.reduceLeDiff, Nat.reduceLT, reduceIte, Prod.mk.injEq, eq_self, false_and, and_false, reduceCtorEq, Nat.reduceSub, List.reverse_cons, List.reverse_nil, List.nil_append, List.cons_append, Option.toList_some, Option.toList_none, not_true_eq_false, not_false_eq_true]
  refine ⟨fun h => no (fun z => b01_0 h z.2), fun h => ?_⟩
  have h2 := b01_1 h
  refine kwX5_lane_16 hC hE ?_
  simp only [kbX5_lane_16, mX5_lane, kblk, kstp, kent, kpad, kget, kst1, kst2, kc2, cond_false, cond_true, kfv, kfit, kOkf, kputv, kputD, kputG, kcpy, kcat, kRR, kNN, true_and, and_true, if_true, if_false, if_pos, Nat.reduceAdd, Nat.reduceEqDiff, Nat.reduceLeDiff, Nat.reduceLT, reduceIte, Prod.mk.injEq, eq_self, false_and, and_false, reduceCtorEq, Nat.reduceSub, List.reverse_cons, List.reverse_nil, List.nil_append, List.cons_append, Option.toList_some, Option.toList_none, not_true_eq_false, not_false_eq_true]
  refine KW_callSX hC hCX (by decide +kernel) kl5_58 (by decide) ((s_requireIndex (km D G) 1)) rfl rfl (by simp [kOkL, kOk, hx]) (by simp [kOkS]) (Nat.le_of_ble_eq_true rfl) (Nat.le_of_ble_eq_true rfl) (Nat.le_of_ble_eq_true rfl) ?_ ?_
  · rintro v M' ⟨rfl, rfl, h⟩
    obtain ⟨i, hi, rfl⟩ := in_range (by omega) h1
    obtain ⟨j, hj, rfl⟩ := in_range (n := 4) (by decide) h2
    refine kwX5_lane_24 hC hE ?_
    simp only [kbX5_lane_24, mX5_lane, kblk, kstp, kent, kpad, kget, kst1, kst2, kc2, cond_false, cond_true, kfv, kfit, kOkf, kputv, kputD, kputG, kcpy, kcat, kRR, kNN, true_and, and_true, if_true, if_false, if_pos, Nat.reduceAdd, Nat.reduceEqDiff, Nat.reduceLeDiff, Nat.reduceLT, reduceIte, Prod.mk.injEq, eq_self, false_and, and_false, reduceCtorEq, Nat.reduceSub, List.reverse_cons, List.reverse_nil, List.nil_append, List.cons_append, Option.toList_some, Option.toList_none, not_true_eq_false, not_false_eq_true, hx, hlive]
    refine KW_callV hC (by decide +kernel) kl5_131 (by decide) ((s_laneFact (by decide) hr hs.1 hi hj)) rfl rfl (Nat.le_of_ble_eq_true rfl) rfl hlive (by simp [kOkL, kOk, hx]) (by simp [kOkS]) (Nat.le_of_ble_eq_true rfl) (Nat.le_of_ble_eq_true rfl) (Nat.le_of_ble_eq_true rfl) ?_
    rintro v M' ⟨rfl, rfl⟩
    refine kwX5_lane_33 hC hE ?_
    simp only [kbX5_lane_33, mX5_lane, kblk, kstp, kent, kpad, kget, kst1, kst2, kc2, cond_false, cond_true, kfv, kfit, kOkf, kputv, kputD, kputG, kcpy, kcat, kRR, kNN, true_and, and_true, if_true, if_false, if_pos, Nat.reduceAdd, Nat.reduceEqDiff, Nat.reduceLeDiff, Nat.reduceLT, reduceIte, Prod.mk.injEq, eq_self, false_and, and_false, reduceCtorEq, Nat.reduceSub, List.reverse_cons, List.reverse_nil, List.nil_append, List.cons_append, Option.toList_some, Option.toList_none, not_true_eq_false, not_false_eq_true]
    exact ⟨⟨⟨i, j, hi, hj, rfl, rfl, rfl⟩, rfl⟩, trivial, Nat.le_refl _, Nat.le_refl _⟩
  · rintro E M' ⟨rfl, rfl, h⟩
    exact absurd h (by decide)
theorem s_shed (hr : kRep 0 D σ) (hs : kS σ) (n : Int32) : SpX mX5_shed 1 6 [kR (some (5, 9, 0)), kI n] (km D G) (fun v M' => (∃ i x, n = nI i ∧ (tS σ)[i]? = some x ∧ v = some (kI (nI x))) ∧ M' = km D G) (fun E M' => (E = kIOE ∧ ¬ (0 ≤ n ∧ n < nI (tS σ).length)) ∧ M' = km D G) := by
  refine SpX_of (own := 5) (by decide +kernel) rfl (Nat.le_of_ble_eq_true rfl) ?_
  intro X hC hCX hE hL0 hTw hTh
  have hx := kx_live
  have hlive : kLive (3, 0, 0) := ⟨by decide, rfl⟩
  obtain ⟨bC, bL, bG⟩ := hr.1
  have hlr : kLive (4, 0, 0) := ⟨by decide, by decide⟩
  have hl8 : kLive (8, 0, 1) := Or.inl ⟨by decide, by decide⟩
  have hlen := hs.slen
  have hrow := hr.old.2.2.2.2.2.2.1
  have hN := kN_shed (show 0 < 2 by decide)
  refine kwX5_shed_0 hC hE ?_
  simp only [kbX5_shed_0, mX5_shed, kblk, kstp, kent, kpad, kget, kst1, kst2, kc2, cond_false, cond_true, kfv, kfit, kOkf, kputv, kputD, kputG, kcpy, kcat, kRR, kNN, true_and, and_true, if_true, if_false, if_pos, Nat.reduceAdd, Nat.reduceEqDiff, Nat.reduceLeDiff, Nat.reduceLT, reduceIte, Prod.mk.injEq, eq_self, false_and, and_false, reduceCtorEq, Nat.reduceSub, List.reverse_cons, List.reverse_nil, List.nil_append, List.cons_append, Option.toList_some, Option.toList_none, not_true_eq_false, not_false_eq_true, hx, hlive, hlr, hrow.1]
  refine KW_callS hC (by decide +kernel) kl5_71 (by decide) ((s_isBelow (km D G) n (nI (tS σ).length))) rfl rfl (by simp [kOkL, kOk, hx]) (by simp [kOkS]) (Nat.le_of_ble_eq_true rfl) (Nat.le_of_ble_eq_true rfl) (Nat.le_of_ble_eq_true rfl) ?_
  rintro v M' ⟨rfl, rfl⟩
  refine KW_callSX hC hCX (by decide +kernel) kl5_58 (by decide) ((s_requireIndex (km D G) _)) rfl rfl (by simp [kOkL, kOk, hx]) (by simp [kOkS]) (Nat.le_of_ble_eq_true rfl) (Nat.le_of_ble_eq_true rfl) (Nat.le_of_ble_eq_true rfl) ?_ ?_
  · rintro v M' ⟨rfl, rfl, h⟩
    obtain ⟨i, hi, rfl⟩ := in_range (by omega) (b01_1 h)
    have hx2 := List.getElem?_eq_getElem hi
    have hv := hrow.2 i _ hx2
    refine kwX5_shed_17 hC hE ?_
    simp only [kbX5_shed_17, mX5_shed, kblk, kstp, kent, kpad, kget, kst1, kst2, kc2, cond_false, cond_true, kfv, kfit, kOkf, kputv, kputD, kputG, kcpy, kcat, kRR, kNN, true_and, and_true, if_true, if_false, if_pos, Nat.reduceAdd, Nat.reduceEqDiff, Nat.reduceLeDiff, Nat.reduceLT, reduceIte, Prod.mk.injEq, eq_self, false_and, and_false, reduceCtorEq, Nat.reduceSub, List.reverse_cons, List.reverse_nil, List.nil_append, List.cons_append, Option.toList_some, Option.toList_none, not_true_eq_false, not_false_eq_true, hx, hlive, hlr, hl8, hN, nI_clamp (show i < 2 ^ 31 by omega), hv]
    exact ⟨vp_in_nI (show i < 20 by omega) (by omega), ⟨⟨i, _, rfl, hx2, rfl⟩, rfl⟩, trivial, Nat.le_refl _, Nat.le_refl _⟩
  · rintro E M' ⟨rfl, rfl, h⟩
    exact hTw _ _ _ _ _ ⟨⟨rfl, b01_0 h⟩, rfl⟩ (Nat.le_refl _) (Nat.le_refl _)
theorem s_queue (hr : kRep 0 D σ) (hs : kS σ) (c n : Int32) : SpX mX5_queue 1 6 [kR (some (5, 9, 0)), kI c, kI n] (km D G) (fun v M' => (∃ l i x, l < tL σ ∧ c = nI l ∧ n = nI i ∧ (tQ σ l)[i]? = some x ∧ v = some (kI (nI x))) ∧ M' = km D G) (fun E M' => (E = kIOE ∧ ¬ ((0 ≤ c ∧ c < nI (tL σ)) ∧ 0 ≤ n ∧ n < nI (tQ σ c.toNatClampNeg).length)) ∧ M' = km D G) := by
  refine SpX_of (own := 5) (by decide +kernel) rfl (Nat.le_of_ble_eq_true rfl) ?_
  intro X hC hCX hE hL0 hTw hTh
  have hx := kx_live
  have hlive : kLive (3, 0, 0) := ⟨by decide, rfl⟩
  obtain ⟨bC, bL, bG⟩ := hr.1
  have no : ¬ ((0 ≤ c ∧ c < nI (tL σ)) ∧ 0 ≤ n ∧ n < nI (tQ σ c.toNatClampNeg).length) → KW X 34 [some (kR (some (5, 9, 0))), some (kI c), some (kI n)] [] (km D G) 0 0 := by
    intro hn
    refine kwX5_queue_34 hC hE ?_
    simp only [kbX5_queue_34, mX5_queue, kblk, kstp, kent, kpad, kget, kst1, kst2, kc2, cond_false, cond_true, kfv, kfit, kOkf, kputv, kputD, kputG, kcpy, kcat, kRR, kNN, true_and, and_true, if_true, if_false, if_pos, Nat.reduceAdd, Nat.reduceEqDiff, Nat.reduceLeDiff, Nat.reduceLT, reduceIte, Prod.mk.injEq, eq_self, false_and, and_false, reduceCtorEq, Nat.reduceSub, List.reverse_cons, List.reverse_nil, List.nil_append, List.cons_append, Option.toList_some, Option.toList_none, not_true_eq_false, not_false_eq_true]
    refine KW_callSX hC hCX (by decide +kernel) kl5_58 (by decide) ((s_requireIndex (km D G) 0)) rfl rfl (by simp [kOkL, kOk, hx]) (by simp [kOkS]) (Nat.le_of_ble_eq_true rfl) (Nat.le_of_ble_eq_true rfl) (Nat.le_of_ble_eq_true rfl) ?_ ?_
    · rintro v M' ⟨rfl, rfl, h⟩
      exact absurd rfl h
    · rintro E M' ⟨rfl, rfl, h⟩
      exact hTw _ _ _ _ _ ⟨⟨rfl, hn⟩, rfl⟩ (Nat.le_refl _) (Nat.le_refl _)
  have hc11 : kLive (11, 0, 0) := ⟨by decide, rfl⟩
  refine kwX5_queue_0 hC hE ?_
  simp only [kbX5_queue_0, mX5_queue, kblk, kstp, kent, kpad, kget, kst1, kst2, kc2, cond_false, cond_true, kfv, kfit, kOkf, kputv, kputD, kputG, kcpy, kcat, kRR, kNN, true_and, and_true, if_true, if_false, if_pos, Nat.reduceAdd, Nat.reduceEqDiff, Nat.reduceLeDiff, Nat.reduceLT, reduceIte, Prod.mk.injEq, eq_self, false_and, and_false, reduceCtorEq, Nat.reduceSub, List.reverse_cons, List.reverse_nil, List.nil_append, List.cons_append, Option.toList_some, Option.toList_none, not_true_eq_false, not_false_eq_true]
  refine KW_callV hC (by decide +kernel) kl5_54 (by decide) ((s_isLane hr c)) rfl rfl (Nat.le_of_ble_eq_true rfl) rfl hx (by simp [kOkL, kOk, hx]) (by simp [kOkS]) (Nat.le_of_ble_eq_true rfl) (Nat.le_of_ble_eq_true rfl) (Nat.le_of_ble_eq_true rfl) ?_
  rintro v M' ⟨rfl, rfl⟩
  refine kwX5_queue_5 hC hE ?_
  simp only [kbX5_queue_5, mX5_queue, kblk, kstp, kent, kpad, kget, kst1, kst2, kc2, cond_false, cond_true, kfv, kfit, kOkf, kputv, kputD, kputG, kcpy, kcat, kRR, kNN, true_and, and_true, if_true, if_false, if_pos, Nat.reduceAdd, Nat.reduceEqDiff, Nat.reduceLeDiff, Nat.reduceLT, reduceIte, Prod.mk.injEq, eq_self, false_and, and_false, reduceCtorEq, Nat.reduceSub, List.reverse_cons, List.reverse_nil, List.nil_append, List.cons_append, Option.toList_some, Option.toList_none, not_true_eq_false, not_false_eq_true]
  refine ⟨fun h => no (fun z => b01_0 h z.1), fun h => ?_⟩
  have h1 := b01_1 h
  obtain ⟨l, hl, rfl⟩ := in_range (by omega) h1
  have hl4 : l < 4 := by omega
  have hll : kLive (2, 0, l) := ⟨by decide, hl4⟩
  have hlr : kLive (4, 0, l + 1) := ⟨by decide, by omega⟩
  have hl8 : kLive (8, 0, l + 2) := Or.inl ⟨by decide, by omega⟩
  have hcl := nI_clamp (show l < 2 ^ 31 by omega)
  have hlen := hs.qlen hl
  have hrow := hr.old.2.2.2.2.2.2.2 l hl
  have hN := kN_lane (show 0 < 2 by decide) l
  rw [hcl] at no
  refine kwX5_queue_8 hC hE ?_
  simp only [kbX5_queue_8, mX5_queue, kblk, kstp, kent, kpad, kget, kst1, kst2, kc2, cond_false, cond_true, kfv, kfit, kOkf, kputv, kputD, kputG, kcpy, kcat, kRR, kNN, true_and, and_true, if_true, if_false, if_pos, Nat.reduceAdd, Nat.reduceEqDiff, Nat.reduceLeDiff, Nat.reduceLT, reduceIte, Prod.mk.injEq, eq_self, false_and, and_false, reduceCtorEq, Nat.reduceSub, List.reverse_cons, List.reverse_nil, List.nil_append, List.cons_append, Option.toList_some, Option.toList_none, not_true_eq_false, not_false_eq_true, hx, hlive, hc11, hll, hlr, hcl, hl4, hrow.1, true_or, or_true]
  refine ⟨vp_in_nI hl4 (by omega), ?_⟩
  refine KW_callS hC (by decide +kernel) kl5_71 (by decide) ((s_isBelow (km D G) n (nI (tQ σ l).length))) rfl rfl (by simp [kOkL, kOk, hx]) (by simp [kOkS]) (Nat.le_of_ble_eq_true rfl) (Nat.le_of_ble_eq_true rfl) (Nat.le_of_ble_eq_true rfl) ?_
  rintro v M' ⟨rfl, rfl⟩
  refine kwX5_queue_27 hC hE ?_
  simp only [kbX5_queue_27, mX5_queue, kblk, kstp, kent, kpad, kget, kst1, kst2, kc2, cond_false, cond_true, kfv, kfit, kOkf, kputv, kputD, kputG, kcpy, kcat, kRR, kNN, true_and, and_true, if_true, if_false, if_pos, Nat.reduceAdd, Nat.reduceEqDiff, Nat.reduceLeDiff, Nat.reduceLT, reduceIte, Prod.mk.injEq, eq_self, false_and, and_false, reduceCtorEq, Nat.reduceSub, List.reverse_cons, List.reverse_nil, List.nil_append, List.cons_append, Option.toList_some, Option.toList_none, not_true_eq_false, not_false_eq_true]
  refine ⟨fun h => no (fun z => b01_0 h z.2), fun h => ?_⟩
  have h2 := b01_1 h
  refine kwX5_queue_30 hC hE ?_
  simp only [kbX5_queue_30, mX5_queue, kblk, kstp, kent, kpad, kget, kst1, kst2, kc2, cond_false, cond_true, kfv, kfit, kOkf, kputv, kputD, kputG, kcpy, kcat, kRR, kNN, true_and, and_true, if_true, if_false, if_pos, Nat.reduceAdd, Nat.reduceEqDiff, Nat.reduceLeDiff, Nat.reduceLT, reduceIte, Prod.mk.injEq, eq_self, false_and, and_false, reduceCtorEq, Nat.reduceSub, List.reverse_cons, List.reverse_nil, List.nil_append, List.cons_append, Option.toList_some, Option.toList_none, not_true_eq_false, not_false_eq_true]
  refine KW_callSX hC hCX (by decide +kernel) kl5_58 (by decide) ((s_requireIndex (km D G) 1)) rfl rfl (by simp [kOkL, kOk, hx]) (by simp [kOkS]) (Nat.le_of_ble_eq_true rfl) (Nat.le_of_ble_eq_true rfl) (Nat.le_of_ble_eq_true rfl) ?_ ?_
  · rintro v M' ⟨rfl, rfl, h⟩
    obtain ⟨i, hi, rfl⟩ := in_range (by omega) h2
    have hx2 := List.getElem?_eq_getElem hi
    have hv := hrow.2 i _ hx2
    refine kwX5_queue_38 hC hE ?_
    simp only [kbX5_queue_38, mX5_queue, kblk, kstp, kent, kpad, kget, kst1, kst2, kc2, cond_false, cond_true, kfv, kfit, kOkf, kputv, kputD, kputG, kcpy, kcat, kRR, kNN, true_and, and_true, if_true, if_false, if_pos, Nat.reduceAdd, Nat.reduceEqDiff, Nat.reduceLeDiff, Nat.reduceLT, reduceIte, Prod.mk.injEq, eq_self, false_and, and_false, reduceCtorEq, Nat.reduceSub, List.reverse_cons, List.reverse_nil, List.nil_append, List.cons_append, Option.toList_some, Option.toList_none, not_true_eq_false, not_false_eq_true, hx, hlive, hc11, hll, hlr, hl8, hcl, hl4, hN, nI_clamp (show i < 2 ^ 31 by omega), hv, true_or, or_true]
    exact ⟨vp_in_nI hl4 (by omega), vp_in_nI (show i < 91 by omega) (by omega), ⟨⟨l, i, _, hl, rfl, rfl, hx2, rfl⟩, rfl⟩, trivial, Nat.le_refl _, Nat.le_refl _⟩
  · rintro E M' ⟨rfl, rfl, h⟩
    exact absurd h (by decide)
theorem s_shut (hr : kRep 0 D σ) (hbool : ∀ l, l < tL σ → tZ σ 21 l = 0 ∨ tZ σ 21 l = 1) (c b : Int32) (hb : b = 0 ∨ b = 1) : SpX mX5_shut 1 6 [kR (some (5, 9, 0)), kI c, kI b] (km D G) (fun v M' => ∃ l, l < tL σ ∧ c = nI l ∧ v = some (kI (tZ σ 21 l)) ∧ kPub D G (tset σ 21 l b) M') (fun E M' => (E = kIOE ∧ ¬ (0 ≤ c ∧ c < nI (tL σ))) ∧ M' = km D G) := by
  refine SpX_of (own := 5) (by decide +kernel) rfl (Nat.le_of_ble_eq_true rfl) ?_
  intro X hC hCX hE hL0 hTw hTh
  have hx := kx_live
  have hlive : kLive (3, 0, 0) := ⟨by decide, rfl⟩
  obtain ⟨bC, bL, bG⟩ := hr.1
  have hc11 : kLive (11, 0, 0) := ⟨by decide, rfl⟩
  refine kwX5_shut_0 hC hE ?_
  simp only [kbX5_shut_0, mX5_shut, kblk, kstp, kent, kpad, kget, kst1, kst2, kc2, cond_false, cond_true, kfv, kfit, kOkf, kputv, kputD, kputG, kcpy, kcat, kRR, kNN, true_and, and_true, if_true, if_false, if_pos, Nat.reduceAdd, Nat.reduceEqDiff, Nat.reduceLeDiff, Nat.reduceLT, reduceIte, Prod.mk.injEq, eq_self, false_and, and_false, reduceCtorEq, Nat.reduceSub, List.reverse_cons, List.reverse_nil, List.nil_append, List.cons_append, Option.toList_some, Option.toList_none, not_true_eq_false, not_false_eq_true]
  refine KW_callV hC (by decide +kernel) kl5_54 (by decide) ((s_isLane hr c)) rfl rfl (Nat.le_of_ble_eq_true rfl) rfl hx (by simp [kOkL, kOk, hx]) (by simp [kOkS]) (Nat.le_of_ble_eq_true rfl) (Nat.le_of_ble_eq_true rfl) (Nat.le_of_ble_eq_true rfl) ?_
  rintro v M' ⟨rfl, rfl⟩
  refine KW_callSX hC hCX (by decide +kernel) kl5_58 (by decide) ((s_requireIndex (km D G) _)) rfl rfl (by simp [kOkL, kOk, hx]) (by simp [kOkS]) (Nat.le_of_ble_eq_true rfl) (Nat.le_of_ble_eq_true rfl) (Nat.le_of_ble_eq_true rfl) ?_ ?_
  · rintro v M' ⟨rfl, rfl, h⟩
    obtain ⟨l, hl, rfl⟩ := in_range (by omega) (b01_1 h)
    have hl4 : l < 4 := by omega
    have hll : kLive (2, 0, l) := ⟨by decide, hl4⟩
    have hcl := nI_clamp (show l < 2 ^ 31 by omega)
    have h1 := hr.old.2.2.2.2.1 l hl 1 (by decide) (by decide)
    refine kwX5_shut_8 hC hE ?_
    simp only [kbX5_shut_8, mX5_shut, kblk, kstp, kent, kpad, kget, kst1, kst2, kc2, cond_false, cond_true, kfv, kfit, kOkf, kputv, kputD, kputG, kcpy, kcat, kRR, kNN, true_and, and_true, if_true, if_false, if_pos, Nat.reduceAdd, Nat.reduceEqDiff, Nat.reduceLeDiff, Nat.reduceLT, reduceIte, Prod.mk.injEq, eq_self, false_and, and_false, reduceCtorEq, Nat.reduceSub, List.reverse_cons, List.reverse_nil, List.nil_append, List.cons_append, Option.toList_some, Option.toList_none, not_true_eq_false, not_false_eq_true, hx, hlive, hc11, hll, hcl, hl4, h1, hb, true_or, or_true]
    exact ⟨vp_in_nI hl4 (by omega), vp_in_nI hl4 (by omega), ⟨l, hl, rfl, rfl, kPub_0 ⟨_, rfl, rep_lane hr l 1 b (by decide) (by decide), kOff.put⟩⟩, hbool l hl, Nat.le_refl _, Nat.le_refl _⟩
  · rintro E M' ⟨rfl, rfl, h⟩
    exact hTw _ _ _ _ _ ⟨⟨rfl, b01_0 h⟩, rfl⟩ (Nat.le_refl _) (Nat.le_refl _)
theorem s_leave (hr : kRep 0 D σ) (hs : kS σ) (c : Int32) : SpX mX5_leave 2 12 [kR (some (5, 9, 0)), kI c] (km D G) (fun v M' => ∃ g, g < tG σ ∧ c = nI g ∧ tZ σ 12 g = 0 ∧ v = some (kI (tZ σ 13 g)) ∧ kPub D G (sendT σ g) M') (fun E M' => ((E = kIOE ∧ ¬ (0 ≤ c ∧ c < nI (tG σ))) ∨ (E = kISE ∧ ∃ g, g < tG σ ∧ c = nI g ∧ ¬ tZ σ 12 g = 0)) ∧ M' = km D G) := by
  refine SpX_of (own := 5) (by decide +kernel) rfl (Nat.le_of_ble_eq_true rfl) ?_
  intro X hC hCX hE hL0 hTw hTh
  have hx := kx_live
  have hlive : kLive (3, 0, 0) := ⟨by decide, rfl⟩
  obtain ⟨bC, bL, bG⟩ := hr.1
  have hc10 : kLive (10, 0, 0) := ⟨by decide, rfl⟩
  refine kwX5_leave_0 hC hE ?_
  simp only [kbX5_leave_0, mX5_leave, kblk, kstp, kent, kpad, kget, kst1, kst2, kc2, cond_false, cond_true, kfv, kfit, kOkf, kputv, kputD, kputG, kcpy, kcat, kRR, kNN, true_and, and_true, if_true, if_false, if_pos, Nat.reduceAdd, Nat.reduceEqDiff, Nat.reduceLeDiff, Nat.reduceLT, reduceIte, Prod.mk.injEq, eq_self, false_and, and_false, reduceCtorEq, Nat.reduceSub, List.reverse_cons, List.reverse_nil, List.nil_append, List.cons_append, Option.toList_some, Option.toList_none, not_true_eq_false, not_false_eq_true]
  refine KW_callV hC (by decide +kernel) kl5_86 (by decide) ((s_isGroup hr c)) rfl rfl (Nat.le_of_ble_eq_true rfl) rfl hx (by simp [kOkL, kOk, hx]) (by simp [kOkS]) (Nat.le_of_ble_eq_true rfl) (Nat.le_of_ble_eq_true rfl) (Nat.le_of_ble_eq_true rfl) ?_
  rintro v M' ⟨rfl, rfl⟩
  refine KW_callSX hC hCX (by decide +kernel) kl5_58 (by decide) ((s_requireIndex (km D G) _)) rfl rfl (by simp [kOkL, kOk, hx]) (by simp [kOkS]) (Nat.le_of_ble_eq_true rfl) (Nat.le_of_ble_eq_true rfl) (Nat.le_of_ble_eq_true rfl) ?_ ?_
  · rintro v M' ⟨rfl, rfl, h⟩
    obtain ⟨g, hg, rfl⟩ := in_range (by omega) (b01_1 h)
    have hg91 : g < 91 := by omega
    have hlg : kLive (1, 0, g) := ⟨by decide, hg91⟩
    have hcl := nI_clamp (show g < 2 ^ 31 by omega)
    have h2 := hr.old.2.2.2.1 g hg 2 (by decide)
    have h3 := hr.old.2.2.2.1 g hg 3 (by decide)
    refine kwX5_leave_8 hC hE ?_
    simp only [kbX5_leave_8, mX5_leave, kblk, kstp, kent, kpad, kget, kst1, kst2, kc2, cond_false, cond_true, kfv, kfit, kOkf, kputv, kputD, kputG, kcpy, kcat, kRR, kNN, true_and, and_true, if_true, if_false, if_pos, Nat.reduceAdd, Nat.reduceEqDiff, Nat.reduceLeDiff, Nat.reduceLT, reduceIte, Prod.mk.injEq, eq_self, false_and, and_false, reduceCtorEq, Nat.reduceSub, List.reverse_cons, List.reverse_nil, List.nil_append, List.cons_append, Option.toList_some, Option.toList_none, not_true_eq_false, not_false_eq_true, hx, hlive, hc10, hlg, hcl, hg91, h2, true_or, or_true]
    refine ⟨vp_in_nI hg91 (by omega), fun hn => ?_, fun hn => ?_⟩
    · refine kwX5_leave_27 hC hE ?_
      simp only [kbX5_leave_27, mX5_leave, kblk, kstp, kent, kpad, kget, kst1, kst2, kc2, cond_false, cond_true, kfv, kfit, kOkf, kputv, kputD, kputG, kcpy, kcat, kRR, kNN, true_and, and_true, if_true, if_false, if_pos, Nat.reduceAdd, Nat.reduceEqDiff, Nat.reduceLeDiff, Nat.reduceLT, reduceIte, Prod.mk.injEq, eq_self, false_and, and_false, reduceCtorEq, Nat.reduceSub, List.reverse_cons, List.reverse_nil, List.nil_append, List.cons_append, Option.toList_some, Option.toList_none, not_true_eq_false, not_false_eq_true]
      refine KW_callSX hC hCX (by decide +kernel) kl5_31 (by decide) ((s_requireState (km D G) 0)) rfl rfl (by simp [kOkL, kOk, hx]) (by simp [kOkS]) (Nat.le_of_ble_eq_true rfl) (Nat.le_of_ble_eq_true rfl) (Nat.le_of_ble_eq_true rfl) ?_ ?_
      · rintro v M' ⟨rfl, rfl, h⟩
        exact absurd rfl h
      · rintro E M' ⟨rfl, rfl, h⟩
        exact hTw _ _ _ _ _ ⟨Or.inr ⟨rfl, g, hg, rfl, hn⟩, rfl⟩ (Nat.le_refl _) (Nat.le_refl _)
    · refine kwX5_leave_23 hC hE ?_
      simp only [kbX5_leave_23, mX5_leave, kblk, kstp, kent, kpad, kget, kst1, kst2, kc2, cond_false, cond_true, kfv, kfit, kOkf, kputv, kputD, kputG, kcpy, kcat, kRR, kNN, true_and, and_true, if_true, if_false, if_pos, Nat.reduceAdd, Nat.reduceEqDiff, Nat.reduceLeDiff, Nat.reduceLT, reduceIte, Prod.mk.injEq, eq_self, false_and, and_false, reduceCtorEq, Nat.reduceSub, List.reverse_cons, List.reverse_nil, List.nil_append, List.cons_append, Option.toList_some, Option.toList_none, not_true_eq_false, not_false_eq_true]
      refine KW_callSX hC hCX (by decide +kernel) kl5_31 (by decide) ((s_requireState (km D G) 1)) rfl rfl (by simp [kOkL, kOk, hx]) (by simp [kOkS]) (Nat.le_of_ble_eq_true rfl) (Nat.le_of_ble_eq_true rfl) (Nat.le_of_ble_eq_true rfl) ?_ ?_
      · rintro v M' ⟨rfl, rfl, h⟩
        refine kwX5_leave_31 hC hE ?_
        simp only [kbX5_leave_31, mX5_leave, kblk, kstp, kent, kpad, kget, kst1, kst2, kc2, cond_false, cond_true, kfv, kfit, kOkf, kputv, kputD, kputG, kcpy, kcat, kRR, kNN, true_and, and_true, if_true, if_false, if_pos, Nat.reduceAdd, Nat.reduceEqDiff, Nat.reduceLeDiff, Nat.reduceLT, reduceIte, Prod.mk.injEq, eq_self, false_and, and_false, reduceCtorEq, Nat.reduceSub, List.reverse_cons, List.reverse_nil, List.nil_append, List.cons_append, Option.toList_some, Option.toList_none, not_true_eq_false, not_false_eq_true, hx, hlive, hc10, hlg, hcl, hg91, h3, true_or, or_true]
        refine ⟨vp_in_nI hg91 (by omega), ?_⟩
        refine KW_callV hC (by decide +kernel) kl5_118 (by decide) ((s_sendAway (by decide) hr hs hg)) rfl rfl (Nat.le_of_ble_eq_true rfl) rfl hlive (by simp [kOkL, kOk, hx]) (by simp [kOkS]) (Nat.le_of_ble_eq_true rfl) (Nat.le_of_ble_eq_true rfl) (Nat.le_of_ble_eq_true rfl) ?_
        rintro v M' ⟨rfl, hp⟩
        refine kwX5_leave_52 hC hE ?_
        simp only [kbX5_leave_52, mX5_leave, kblk, kstp, kent, kpad, kget, kst1, kst2, kc2, cond_false, cond_true, kfv, kfit, kOkf, kputv, kputD, kputG, kcpy, kcat, kRR, kNN, true_and, and_true, if_true, if_false, if_pos, Nat.reduceAdd, Nat.reduceEqDiff, Nat.reduceLeDiff, Nat.reduceLT, reduceIte, Prod.mk.injEq, eq_self, false_and, and_false, reduceCtorEq, Nat.reduceSub, List.reverse_cons, List.reverse_nil, List.nil_append, List.cons_append, Option.toList_some, Option.toList_none, not_true_eq_false, not_false_eq_true]
        exact ⟨⟨g, hg, rfl, hn, rfl, kPub_0 hp⟩, trivial, Nat.le_refl _, Nat.le_refl _⟩
      · rintro E M' ⟨rfl, rfl, h⟩
        exact absurd h (by decide)
  · rintro E M' ⟨rfl, rfl, h⟩
    exact hTw _ _ _ _ _ ⟨Or.inl ⟨rfl, b01_0 h⟩, rfl⟩ (Nat.le_of_ble_eq_true rfl) (Nat.le_of_ble_eq_true rfl)
end LIFT5

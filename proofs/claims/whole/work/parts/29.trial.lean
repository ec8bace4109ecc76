/-! The trial lift: a group more than was copied. ChairLift's small helpers. -/
section TRIAL
variable {D : KI → Nat → Int32} {G : KI → Nat → Int64} {L : Nat} {σ : KT}
theorem s_startG (hL : L < 2) (hr : kRep L D σ) {g : Nat} (hg : g < 91) (a b c : Int32) : SpQ mX1_start 0 0 [kR (some (1, L, g)), kI a, kI b, kI c] (km D G) (fun v M' => v = none ∧ ∃ D', M' = km D' G ∧ kRep L D' (startT σ g a b c) ∧ kOff L D' D ∧ ∀ j, j < 8 → D' (1, L, g) j = tZ (startT σ g a b c) (10 + j) g) := by
  refine SpQ_of (own := 1) (ini := false) (by decide +kernel) rfl (by decide) (Nat.le_of_ble_eq_true rfl) ?_
  intro X hC hE hL0
  have hlg : kLive (1, L, g) := ⟨hL, hg⟩
  refine kwX1_start_0 hC hE ?_
  simp only [kbX1_start_0, mX1_start, kblk, kstp, kent, kpad, kget, kst1, kst2, kc2, cond_false, cond_true, kfv, kfit, kOkf, kputv, kputD, kputG, kcpy, kcat, kRR, kNN, true_and, and_true, if_true, if_false, if_pos, Nat.reduceAdd, Nat.reduceEqDiff, Nat.reduceLeDiff, Nat.reduceLT, reduceIte, Prod.mk.injEq, eq_self, false_and, and_false, reduceCtorEq, Nat.reduceSub, List.reverse_cons, List.reverse_nil, List.nil_append, List.cons_append, Option.toList_some, Option.toList_none, not_true_eq_false, not_false_eq_true, hlg]
  refine ⟨⟨rfl, _, rfl, ?_, kOff.put.trans (kOff.put.trans (kOff.put.trans (kOff.put.trans (kOff.put.trans (kOff.put.trans (kOff.put.trans kOff.put)))))), fun j hj => ?_⟩, trivial, Nat.le_refl _, Nat.le_refl _⟩
  · exact rep_group (rep_group (rep_group (rep_group (rep_group (rep_group (rep_group (rep_group hr g 0 a (by decide)) g 1 b (by decide)) g 2 0 (by decide)) g 3 (-1) (by decide)) g 4 (-1) (by decide)) g 5 c (by decide)) g 6 (-1) (by decide)) g 7 0 (by decide)
  · have : j = 0 ∨ j = 1 ∨ j = 2 ∨ j = 3 ∨ j = 4 ∨ j = 5 ∨ j = 6 ∨ j = 7 := by omega
    rcases this with rfl | rfl | rfl | rfl | rfl | rfl | rfl | rfl <;> simp [kput, startT, tZ_tset, tQ_tset, tS_tset, tC_tset, tL_tset, tG_tset, tZ_tsetQ, tQ_tsetQ, tS_tsetQ, tC_tsetQ, tL_tsetQ, tG_tsetQ, tZ_tsetS, tQ_tsetS, tS_tsetS, tC_tsetS, tL_tsetS, tG_tsetS, tZ_tMod, tQ_tMod, tS_tMod, tC_tMod, tL_tMod, tG_tMod, tZ_tcnt, tQ_tcnt, tS_tcnt, tC_tcnt, tL_tcnt, tG_tcnt, zup]
theorem s_putIntoG (hL : L < 2) (hr : kRep L D σ) {g l : Nat} (hg91 : g < 91) (hl : l < tL σ) (hql : (tQ σ l).length < 91) : SpQ mX3_putIntoQueue 0 0 [kR (some (3, L, 0)), kI (nI g), kI (nI l)] (km D G) (fun v M' => v = none ∧ ∃ D', M' = km D' G ∧ kRep L D' (putT σ g l) ∧ kOff L D' D ∧ ∀ j, D' (1, L, g) j = if j = 3 then nI l else D (1, L, g) j) := by
  refine SpQ_of (own := 3) (ini := false) (by decide +kernel) rfl (by decide) (Nat.le_of_ble_eq_true rfl) ?_
  intro X hC hE hL0
  have hb2 := hr.1.2.1
  have hlive : kLive (3, L, 0) := ⟨hL, rfl⟩
  have hlive10 : kLive (10, L, 0) := ⟨hL, rfl⟩
  have hlive11 : kLive (11, L, 0) := ⟨hL, rfl⟩
  have hlg : kLive (1, L, g) := ⟨hL, hg91⟩
  have hl4 : l < 4 := by omega
  have hll : kLive (2, L, l) := ⟨hL, hl4⟩
  have hlr : kLive (4, L, l + 1) := ⟨hL, by omega⟩
  have hN := kN_lane hL l
  refine kwX3_putIntoQueue_0 hC hE ?_
  simp only [kbX3_putIntoQueue_0, mX3_putIntoQueue, kblk, kstp, kent, kpad, kget, kst1, kst2, kc2, cond_false, cond_true, kfv, kfit, kOkf, kputv, kputD, kputG, kcpy, kcat, kRR, kNN, true_and, and_true, if_true, if_false, if_pos, Nat.reduceAdd, Nat.reduceEqDiff, Nat.reduceLeDiff, Nat.reduceLT, reduceIte, Prod.mk.injEq, eq_self, false_and, and_false, reduceCtorEq, Nat.reduceSub, List.reverse_cons, List.reverse_nil, List.nil_append, List.cons_append, Option.toList_some, Option.toList_none, not_true_eq_false, not_false_eq_true, hlive, hlive10, hlive11, nI_clamp (show g < 2 ^ 31 by omega), hg91, hlg, nI_clamp (show l < 2 ^ 31 by omega), hl4, hll, true_or, or_true]
  refine ⟨vp_in_nI hg91 (by omega), vp_in_nI hl4 (by omega), ?_⟩
  have hr1 := rep_group hr g 3 (nI l) (by decide)
  have hq := hr1.old.2.2.2.2.2.2.2 l hl
  refine KW_callV hC (by decide +kernel) kl3_95 (by decide) ((s_Row_append (n := g) hL (by omega) hq (by rw [hN, tQ_tset]; omega) (by rw [hN]; decide))) rfl rfl (Nat.le_of_ble_eq_true rfl) rfl hlr (by simp [kOkL, kOk, hlive]) (by simp [kOkS]) (Nat.le_of_ble_eq_true rfl) (Nat.le_of_ble_eq_true rfl) (Nat.le_of_ble_eq_true rfl) ?_
  rintro v M' ⟨rfl, D', rfl, hr', ho⟩
  refine kwX3_putIntoQueue_23 hC hE ?_
  simp only [kbX3_putIntoQueue_23, mX3_putIntoQueue, kblk, kstp, kent, kpad, kget, kst1, kst2, kc2, cond_false, cond_true, kfv, kfit, kOkf, kputv, kputD, kputG, kcpy, kcat, kRR, kNN, true_and, and_true, if_true, if_false, if_pos, Nat.reduceAdd, Nat.reduceEqDiff, Nat.reduceLeDiff, Nat.reduceLT, reduceIte, Prod.mk.injEq, eq_self, false_and, and_false, reduceCtorEq, Nat.reduceSub, List.reverse_cons, List.reverse_nil, List.nil_append, List.cons_append, Option.toList_some, Option.toList_none, not_true_eq_false, not_false_eq_true]
  refine ⟨⟨rfl, _, rfl, rep_queue hr1 ho hr', (kOff.row ho).trans kOff.put, fun j => ?_⟩, trivial, Nat.le_refl _, Nat.le_refl _⟩
  rw [ho _ (by simp) (by simp)]
  by_cases hj : j = 3
  · subst hj; simp [kput]
  · simp [kput, hj]
theorem rep_cntG {σ : KT} (h : kRep L D σ) (hL : L ≠ 0) (hlt : tG σ < 91) (hg : ∀ j, j < 8 → D (1, L, tG σ) j = tZ σ (10 + j) (tG σ)) : kRep L (kput D (3, L, 0) 7 (nI (tG σ + 1))) (tcnt σ (tC σ) (tL σ) (tG σ + 1)) := by
  obtain ⟨bb, ⟨h1, h2, h3⟩, h4, h5, h6, h7, h8, h9, h10⟩ := h
  have row : ∀ k xs, rowRep D L k xs → rowRep (kput D (3, L, 0) 7 (nI (tG σ + 1))) L k xs := fun k xs hx => hx.keep (by simp [kput]) (fun i' _ => by simp [kput])
  refine ⟨⟨bb.1, bb.2.1, hlt⟩, ⟨by simp [kput, h1, tC_tcnt], by simp [kput, h2, tL_tcnt], by simp [kput, tG_tcnt]⟩, fun j' a b => ?_, fun c hc2 j' hj' => ?_, fun c hc2 j' hj' => ?_, fun c hc2 j' hj' hj2 => ?_, fun t ht => ?_, row _ _ h9, fun l hl2 => row _ _ (h10 l hl2)⟩
  · have : ¬ (j' = 7) := by omega
    simp only [kput, this, and_false, if_false]
    exact h4 j' a b
  · simp only [kput, Prod.mk.injEq, Nat.reduceEqDiff, false_and, if_false]
    exact h5 c hc2 j' hj'
  · simp only [kput, Prod.mk.injEq, Nat.reduceEqDiff, false_and, if_false]
    have hc3 : c < tG σ + 1 := by
      unfold lim at hc2
      rw [if_neg hL] at hc2
      exact hc2
    rcases Nat.lt_or_ge c (tG σ) with q | q
    · exact h6 c (by unfold lim; rw [if_neg hL]; exact q) j' hj'
    · have : c = tG σ := by omega
      subst this
      exact hg j' hj'
  · simp only [kput, Prod.mk.injEq, Nat.reduceEqDiff, false_and, if_false]
    exact h7 c hc2 j' hj' hj2
  · simp only [kput, Prod.mk.injEq, Nat.reduceEqDiff, false_and, if_false]
    exact h8 t ht
theorem s_makeGroup1 (hr : kRep 1 D σ) (hs : kS σ) (hlt : tG σ < 91) {l : Nat} (hl : l < tL σ) (a b : Int32) : SpQ mX3_makeGroup 0 0 [kR (some (3, 1, 0)), kI (nI l), kI a, kI b] (km D G) (fun v M' => v = some (kI (nI (tG σ))) ∧ kTo 1 D G (mkGroup σ l a b) M') := by
  refine SpQ_of (own := 3) (ini := false) (by decide +kernel) rfl (by decide) (Nat.le_of_ble_eq_true rfl) ?_
  intro X hC hE hL0
  have hlive : kLive (3, 1, 0) := ⟨by decide, rfl⟩
  have hlive10 : kLive (10, 1, 0) := ⟨by decide, rfl⟩
  have hlg : kLive (1, 1, tG σ) := ⟨by decide, hlt⟩
  have c7 := hr.old.1.2.2
  have h11 := hr.old.2.1 11 (by decide) (by decide)
  have hql := hs.qlen hl
  refine kwX3_makeGroup_0 hC hE ?_
  simp only [kbX3_makeGroup_0, mX3_makeGroup, kblk, kstp, kent, kpad, kget, kst1, kst2, kc2, cond_false, cond_true, kfv, kfit, kOkf, kputv, kputD, kputG, kcpy, kcat, kRR, kNN, true_and, and_true, if_true, if_false, if_pos, Nat.reduceAdd, Nat.reduceEqDiff, Nat.reduceLeDiff, Nat.reduceLT, reduceIte, Prod.mk.injEq, eq_self, false_and, and_false, reduceCtorEq, Nat.reduceSub, List.reverse_cons, List.reverse_nil, List.nil_append, List.cons_append, Option.toList_some, Option.toList_none, not_true_eq_false, not_false_eq_true, hlive, hlive10, c7, h11, nI_clamp (show tG σ < 2 ^ 31 by omega), hlt, hlg, true_or, or_true]
  refine ⟨vp_in_nI hlt (by omega), ?_⟩
  refine KW_callV hC (by decide +kernel) kl3_98 (by decide) ((s_startG (by decide) hr hlt a b (tZ σ 41 0))) rfl rfl (Nat.le_of_ble_eq_true rfl) rfl hlg (by simp [kOkL, kOk, hlive]) (by simp [kOkS]) (Nat.le_of_ble_eq_true rfl) (Nat.le_of_ble_eq_true rfl) (Nat.le_of_ble_eq_true rfl) ?_
  rintro v M' ⟨rfl, D1, rfl, hr1, ho1, hg1⟩
  refine kwX3_makeGroup_22 hC hE ?_
  simp only [kbX3_makeGroup_22, mX3_makeGroup, kblk, kstp, kent, kpad, kget, kst1, kst2, kc2, cond_false, cond_true, kfv, kfit, kOkf, kputv, kputD, kputG, kcpy, kcat, kRR, kNN, true_and, and_true, if_true, if_false, if_pos, Nat.reduceAdd, Nat.reduceEqDiff, Nat.reduceLeDiff, Nat.reduceLT, reduceIte, Prod.mk.injEq, eq_self, false_and, and_false, reduceCtorEq, Nat.reduceSub, List.reverse_cons, List.reverse_nil, List.nil_append, List.cons_append, Option.toList_some, Option.toList_none, not_true_eq_false, not_false_eq_true]
  refine KW_callV hC (by decide +kernel) kl3_102 (by decide) ((s_putIntoG (g := tG σ) (l := l) (by decide) hr1 hlt hl (by simp only [startT, tZ_tset, tQ_tset, tS_tset, tC_tset, tL_tset, tG_tset, tZ_tsetQ, tQ_tsetQ, tS_tsetQ, tC_tsetQ, tL_tsetQ, tG_tsetQ, tZ_tsetS, tQ_tsetS, tS_tsetS, tC_tsetS, tL_tsetS, tG_tsetS, tZ_tMod, tQ_tMod, tS_tMod, tC_tMod, tL_tMod, tG_tMod, tZ_tcnt, tQ_tcnt, tS_tcnt, tC_tcnt, tL_tcnt, tG_tcnt]; omega))) rfl rfl (Nat.le_of_ble_eq_true rfl) rfl hlive (by simp [kOkL, kOk, hlive]) (by simp [kOkS]) (Nat.le_of_ble_eq_true rfl) (Nat.le_of_ble_eq_true rfl) (Nat.le_of_ble_eq_true rfl) ?_
  rintro v M' ⟨rfl, D2, rfl, hr2, ho2, hg2⟩
  have d7 : D2 (3, 1, 0) 7 = nI (tG σ) := hr2.old.1.2.2
  refine kwX3_makeGroup_29 hC hE ?_
  simp only [kbX3_makeGroup_29, mX3_makeGroup, kblk, kstp, kent, kpad, kget, kst1, kst2, kc2, cond_false, cond_true, kfv, kfit, kOkf, kputv, kputD, kputG, kcpy, kcat, kRR, kNN, true_and, and_true, if_true, if_false, if_pos, Nat.reduceAdd, Nat.reduceEqDiff, Nat.reduceLeDiff, Nat.reduceLT, reduceIte, Prod.mk.injEq, eq_self, false_and, and_false, reduceCtorEq, Nat.reduceSub, List.reverse_cons, List.reverse_nil, List.nil_append, List.cons_append, Option.toList_some, Option.toList_none, not_true_eq_false, not_false_eq_true, hlive, d7, nI_1]
  refine ⟨⟨rfl, _, rfl, ?_, kOff.put.trans (ho2.trans ho1)⟩, trivial, Nat.le_refl _, Nat.le_refl _⟩
  refine rep_cntG hr2 (by decide) hlt (fun j hj => ?_)
  have e : tG (putT (startT σ (tG σ) a b (tZ σ 41 0)) (tG σ) l) = tG σ := rfl
  rw [e, hg2 j]
  by_cases h3 : j = 3
  · subst h3
    rw [if_pos rfl]
    exact zup_eq.symm
  · rw [if_neg h3, hg1 j hj]
    exact (zup_ne (by omega)).symm
end TRIAL
section SMALL
abbrev b01 (p : Prop) [Decidable p] : Int32 := if p then 1 else 0
theorem s_isBelow (M : KM) (x y : Int32) : SpQ mX5_isBelow 0 0 [kI x, kI y] M (fun v M' => v = some (kI (if 0 ≤ x ∧ x < y then 1 else 0)) ∧ M' = M) := by
  refine SpQ_of (own := 5) (ini := false) (by decide +kernel) rfl (by decide) (Nat.le_of_ble_eq_true rfl) ?_
  intro X hC hE hL0
  have no : ¬ (0 ≤ x ∧ x < y) → KW X 13 [some (kI x), some (kI y)] [] M 0 0 := by
    intro h
    refine kwX5_isBelow_13 hC hE ?_
    simp only [kbX5_isBelow_13, mX5_isBelow, kblk, kstp, kent, kpad, kget, kst1, kst2, kc2, cond_false, cond_true, kfv, kfit, kOkf, kputv, kputD, kputG, kcpy, kcat, kRR, kNN, true_and, and_true, if_true, if_false, if_pos, Nat.reduceAdd, Nat.reduceEqDiff, Nat.reduceLeDiff, Nat.reduceLT, reduceIte, Prod.mk.injEq, eq_self, false_and, and_false, reduceCtorEq, Nat.reduceSub, List.reverse_cons, List.reverse_nil, List.nil_append, List.cons_append, Option.toList_some, Option.toList_none, not_true_eq_false, not_false_eq_true]
    refine kwX5_isBelow_14 hC hE ?_
    simp only [kbX5_isBelow_14, mX5_isBelow, kblk, kstp, kent, kpad, kget, kst1, kst2, kc2, cond_false, cond_true, kfv, kfit, kOkf, kputv, kputD, kputG, kcpy, kcat, kRR, kNN, true_and, and_true, if_true, if_false, if_pos, Nat.reduceAdd, Nat.reduceEqDiff, Nat.reduceLeDiff, Nat.reduceLT, reduceIte, Prod.mk.injEq, eq_self, false_and, and_false, reduceCtorEq, Nat.reduceSub, List.reverse_cons, List.reverse_nil, List.nil_append, List.cons_append, Option.toList_some, Option.toList_none, not_true_eq_false, not_false_eq_true]
    exact ⟨⟨congrArg (fun x => some (kI x)) (if_neg h).symm, rfl⟩, Or.inl rfl, Nat.le_refl _, Nat.le_refl _⟩
  refine kwX5_isBelow_0 hC hE ?_
  simp only [kbX5_isBelow_0, mX5_isBelow, kblk, kstp, kent, kpad, kget, kst1, kst2, kc2, cond_false, cond_true, kfv, kfit, kOkf, kputv, kputD, kputG, kcpy, kcat, kRR, kNN, true_and, and_true, if_true, if_false, if_pos, Nat.reduceAdd, Nat.reduceEqDiff, Nat.reduceLeDiff, Nat.reduceLT, reduceIte, Prod.mk.injEq, eq_self, false_and, and_false, reduceCtorEq, Nat.reduceSub, List.reverse_cons, List.reverse_nil, List.nil_append, List.cons_append, Option.toList_some, Option.toList_none, not_true_eq_false, not_false_eq_true]
  refine ⟨fun h => no (fun z => absurd h (Int32.not_lt.mpr z.1)), fun h => ?_⟩
  refine kwX5_isBelow_4 hC hE ?_
  simp only [kbX5_isBelow_4, mX5_isBelow, kblk, kstp, kent, kpad, kget, kst1, kst2, kc2, cond_false, cond_true, kfv, kfit, kOkf, kputv, kputD, kputG, kcpy, kcat, kRR, kNN, true_and, and_true, if_true, if_false, if_pos, Nat.reduceAdd, Nat.reduceEqDiff, Nat.reduceLeDiff, Nat.reduceLT, reduceIte, Prod.mk.injEq, eq_self, false_and, and_false, reduceCtorEq, Nat.reduceSub, List.reverse_cons, List.reverse_nil, List.nil_append, List.cons_append, Option.toList_some, Option.toList_none, not_true_eq_false, not_false_eq_true]
  refine ⟨fun h2 => no (fun z => absurd z.2 (Int32.not_lt.mpr h2)), fun h2 => ?_⟩
  refine kwX5_isBelow_9 hC hE ?_
  simp only [kbX5_isBelow_9, mX5_isBelow, kblk, kstp, kent, kpad, kget, kst1, kst2, kc2, cond_false, cond_true, kfv, kfit, kOkf, kputv, kputD, kputG, kcpy, kcat, kRR, kNN, true_and, and_true, if_true, if_false, if_pos, Nat.reduceAdd, Nat.reduceEqDiff, Nat.reduceLeDiff, Nat.reduceLT, reduceIte, Prod.mk.injEq, eq_self, false_and, and_false, reduceCtorEq, Nat.reduceSub, List.reverse_cons, List.reverse_nil, List.nil_append, List.cons_append, Option.toList_some, Option.toList_none, not_true_eq_false, not_false_eq_true]
  refine kwX5_isBelow_14 hC hE ?_
  simp only [kbX5_isBelow_14, mX5_isBelow, kblk, kstp, kent, kpad, kget, kst1, kst2, kc2, cond_false, cond_true, kfv, kfit, kOkf, kputv, kputD, kputG, kcpy, kcat, kRR, kNN, true_and, and_true, if_true, if_false, if_pos, Nat.reduceAdd, Nat.reduceEqDiff, Nat.reduceLeDiff, Nat.reduceLT, reduceIte, Prod.mk.injEq, eq_self, false_and, and_false, reduceCtorEq, Nat.reduceSub, List.reverse_cons, List.reverse_nil, List.nil_append, List.cons_append, Option.toList_some, Option.toList_none, not_true_eq_false, not_false_eq_true]
  exact ⟨⟨congrArg (fun x => some (kI x)) (if_pos ⟨Int32.not_lt.mp h, Int32.not_le.mp h2⟩).symm, rfl⟩, Or.inr rfl, Nat.le_refl _, Nat.le_refl _⟩
theorem s_isWithin (M : KM) (x y z : Int32) : SpQ mX5_isWithin 0 0 [kI x, kI y, kI z] M (fun v M' => v = some (kI (if y ≤ x ∧ x ≤ z then 1 else 0)) ∧ M' = M) := by
  refine SpQ_of (own := 5) (ini := false) (by decide +kernel) rfl (by decide) (Nat.le_of_ble_eq_true rfl) ?_
  intro X hC hE hL0
  have no : ¬ (y ≤ x ∧ x ≤ z) → KW X 14 [some (kI x), some (kI y), some (kI z)] [] M 0 0 := by
    intro h
    refine kwX5_isWithin_14 hC hE ?_
    simp only [kbX5_isWithin_14, mX5_isWithin, kblk, kstp, kent, kpad, kget, kst1, kst2, kc2, cond_false, cond_true, kfv, kfit, kOkf, kputv, kputD, kputG, kcpy, kcat, kRR, kNN, true_and, and_true, if_true, if_false, if_pos, Nat.reduceAdd, Nat.reduceEqDiff, Nat.reduceLeDiff, Nat.reduceLT, reduceIte, Prod.mk.injEq, eq_self, false_and, and_false, reduceCtorEq, Nat.reduceSub, List.reverse_cons, List.reverse_nil, List.nil_append, List.cons_append, Option.toList_some, Option.toList_none, not_true_eq_false, not_false_eq_true]
    refine kwX5_isWithin_15 hC hE ?_
    simp only [kbX5_isWithin_15, mX5_isWithin, kblk, kstp, kent, kpad, kget, kst1, kst2, kc2, cond_false, cond_true, kfv, kfit, kOkf, kputv, kputD, kputG, kcpy, kcat, kRR, kNN, true_and, and_true, if_true, if_false, if_pos, Nat.reduceAdd, Nat.reduceEqDiff, Nat.reduceLeDiff, Nat.reduceLT, reduceIte, Prod.mk.injEq, eq_self, false_and, and_false, reduceCtorEq, Nat.reduceSub, List.reverse_cons, List.reverse_nil, List.nil_append, List.cons_append, Option.toList_some, Option.toList_none, not_true_eq_false, not_false_eq_true]
    exact ⟨⟨congrArg (fun x => some (kI x)) (if_neg h).symm, rfl⟩, Or.inl rfl, Nat.le_refl _, Nat.le_refl _⟩
  refine kwX5_isWithin_0 hC hE ?_
  simp only [kbX5_isWithin_0, mX5_isWithin, kblk, kstp, kent, kpad, kget, kst1, kst2, kc2, cond_false, cond_true, kfv, kfit, kOkf, kputv, kputD, kputG, kcpy, kcat, kRR, kNN, true_and, and_true, if_true, if_false, if_pos, Nat.reduceAdd, Nat.reduceEqDiff, Nat.reduceLeDiff, Nat.reduceLT, reduceIte, Prod.mk.injEq, eq_self, false_and, and_false, reduceCtorEq, Nat.reduceSub, List.reverse_cons, List.reverse_nil, List.nil_append, List.cons_append, Option.toList_some, Option.toList_none, not_true_eq_false, not_false_eq_true]
  refine ⟨fun h => no (fun z => absurd h (Int32.not_lt.mpr z.1)), fun h => ?_⟩
  refine kwX5_isWithin_5 hC hE ?_
  simp only [kbX5_isWithin_5, mX5_isWithin, kblk, kstp, kent, kpad, kget, kst1, kst2, kc2, cond_false, cond_true, kfv, kfit, kOkf, kputv, kputD, kputG, kcpy, kcat, kRR, kNN, true_and, and_true, if_true, if_false, if_pos, Nat.reduceAdd, Nat.reduceEqDiff, Nat.reduceLeDiff, Nat.reduceLT, reduceIte, Prod.mk.injEq, eq_self, false_and, and_false, reduceCtorEq, Nat.reduceSub, List.reverse_cons, List.reverse_nil, List.nil_append, List.cons_append, Option.toList_some, Option.toList_none, not_true_eq_false, not_false_eq_true]
  refine ⟨fun h2 => no (fun w => absurd h2 (Int32.not_lt.mpr w.2)), fun h2 => ?_⟩
  refine kwX5_isWithin_10 hC hE ?_
  simp only [kbX5_isWithin_10, mX5_isWithin, kblk, kstp, kent, kpad, kget, kst1, kst2, kc2, cond_false, cond_true, kfv, kfit, kOkf, kputv, kputD, kputG, kcpy, kcat, kRR, kNN, true_and, and_true, if_true, if_false, if_pos, Nat.reduceAdd, Nat.reduceEqDiff, Nat.reduceLeDiff, Nat.reduceLT, reduceIte, Prod.mk.injEq, eq_self, false_and, and_false, reduceCtorEq, Nat.reduceSub, List.reverse_cons, List.reverse_nil, List.nil_append, List.cons_append, Option.toList_some, Option.toList_none, not_true_eq_false, not_false_eq_true]
  refine kwX5_isWithin_15 hC hE ?_
  simp only [kbX5_isWithin_15, mX5_isWithin, kblk, kstp, kent, kpad, kget, kst1, kst2, kc2, cond_false, cond_true, kfv, kfit, kOkf, kputv, kputD, kputG, kcpy, kcat, kRR, kNN, true_and, and_true, if_true, if_false, if_pos, Nat.reduceAdd, Nat.reduceEqDiff, Nat.reduceLeDiff, Nat.reduceLT, reduceIte, Prod.mk.injEq, eq_self, false_and, and_false, reduceCtorEq, Nat.reduceSub, List.reverse_cons, List.reverse_nil, List.nil_append, List.cons_append, Option.toList_some, Option.toList_none, not_true_eq_false, not_false_eq_true]
  exact ⟨⟨congrArg (fun x => some (kI x)) (if_pos ⟨Int32.not_lt.mp h, Int32.not_lt.mp h2⟩).symm, rfl⟩, Or.inr rfl, Nat.le_refl _, Nat.le_refl _⟩
theorem s_mixed (M : KM) (x y : Int64) : SpQ mX5_mixed 0 0 [kL x, kL y] M (fun v M' => v = some (kL (x * 31 + y)) ∧ M' = M) := by
  refine SpQ_of (own := 5) (ini := false) (by decide +kernel) rfl (by decide) (Nat.le_of_ble_eq_true rfl) ?_
  intro X hC hE hL0
  refine kwX5_mixed_0 hC hE ?_
  simp only [kbX5_mixed_0, mX5_mixed, kblk, kstp, kent, kpad, kget, kst1, kst2, kc2, cond_false, cond_true, kfv, kfit, kOkf, kputv, kputD, kputG, kcpy, kcat, kRR, kNN, true_and, and_true, if_true, if_false, if_pos, Nat.reduceAdd, Nat.reduceEqDiff, Nat.reduceLeDiff, Nat.reduceLT, reduceIte, Prod.mk.injEq, eq_self, false_and, and_false, reduceCtorEq, Nat.reduceSub, List.reverse_cons, List.reverse_nil, List.nil_append, List.cons_append, Option.toList_some, Option.toList_none, not_true_eq_false, not_false_eq_true]
  exact ⟨⟨rfl, rfl⟩, trivial, Nat.le_refl _, Nat.le_refl _⟩
end SMALL

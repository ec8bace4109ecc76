/-! ChairLift: looking at one thing; building. -/
section LIFT3
variable {D : KI → Nat → Int32} {G : KI → Nat → Int64} {σ : KT}
theorem s_addLane (hr : kRep 0 D σ) : SpX mX5_addLane 1 6 [kR (some (5, 9, 0))] (km D G) (fun v M' => v = some (kI (nI (tL σ))) ∧ tL σ < 4 ∧ kPub D G (mkLane σ) M') (fun E M' => (E = kISE ∧ ¬ tL σ < 4) ∧ M' = km D G) := by
  refine SpX_of (own := 5) (by decide +kernel) rfl (Nat.le_of_ble_eq_true rfl) ?_
  intro X hC hCX hE hL0 hTw hTh
  have hx := kx_live
  have hlive : kLive (3, 0, 0) := ⟨by decide, rfl⟩
  have c6 := hr.old.1.2.1
  have hb := hr.1.2.1
  refine kwX5_addLane_0 hC hE ?_
  simp only [kbX5_addLane_0, mX5_addLane, kblk, kstp, kent, kpad, kget, kst1, kst2, kc2, cond_false, cond_true, kfv, kfit, kOkf, kputv, kputD, kputG, kcpy, kcat, kRR, kNN, true_and, and_true, if_true, if_false, if_pos, Nat.reduceAdd, Nat.reduceEqDiff, Nat.reduceLeDiff, Nat.reduceLT, reduceIte, Prod.mk.injEq, eq_self, false_and, and_false, reduceCtorEq, Nat.reduceSub, List.reverse_cons, List.reverse_nil, List.nil_append, List.cons_append, Option.toList_some, Option.toList_none, not_true_eq_false, not_false_eq_true, hx, hlive, c6]
  refine ⟨fun h => ?_, fun h => ?_⟩
  · have hn : ¬ tL σ < 4 := fun z => absurd h (nI_ge (a := tL σ) (b := 4) z (by decide))
    refine kwX5_addLane_15 hC hE ?_
    simp only [kbX5_addLane_15, mX5_addLane, kblk, kstp, kent, kpad, kget, kst1, kst2, kc2, cond_false, cond_true, kfv, kfit, kOkf, kputv, kputD, kputG, kcpy, kcat, kRR, kNN, true_and, and_true, if_true, if_false, if_pos, Nat.reduceAdd, Nat.reduceEqDiff, Nat.reduceLeDiff, Nat.reduceLT, reduceIte, Prod.mk.injEq, eq_self, false_and, and_false, reduceCtorEq, Nat.reduceSub, List.reverse_cons, List.reverse_nil, List.nil_append, List.cons_append, Option.toList_some, Option.toList_none, not_true_eq_false, not_false_eq_true]
    refine KW_callSX hC hCX (by decide +kernel) kl5_31 (by decide) ((s_requireState (km D G) 0)) rfl rfl (by simp [kOkL, kOk, hx]) (by simp [kOkS]) (Nat.le_of_ble_eq_true rfl) (Nat.le_of_ble_eq_true rfl) (Nat.le_of_ble_eq_true rfl) ?_ ?_
    · rintro v M' ⟨rfl, rfl, h⟩
      exact absurd rfl h
    · rintro E M' ⟨rfl, rfl, h⟩
      exact hTw _ _ _ _ _ ⟨⟨rfl, hn⟩, rfl⟩ (Nat.le_refl _) (Nat.le_refl _)
  · have hn : tL σ < 4 := nI_ltr (b := 4) (by omega) (by decide) (Int32.not_le.mp h)
    refine kwX5_addLane_11 hC hE ?_
    simp only [kbX5_addLane_11, mX5_addLane, kblk, kstp, kent, kpad, kget, kst1, kst2, kc2, cond_false, cond_true, kfv, kfit, kOkf, kputv, kputD, kputG, kcpy, kcat, kRR, kNN, true_and, and_true, if_true, if_false, if_pos, Nat.reduceAdd, Nat.reduceEqDiff, Nat.reduceLeDiff, Nat.reduceLT, reduceIte, Prod.mk.injEq, eq_self, false_and, and_false, reduceCtorEq, Nat.reduceSub, List.reverse_cons, List.reverse_nil, List.nil_append, List.cons_append, Option.toList_some, Option.toList_none, not_true_eq_false, not_false_eq_true]
    refine KW_callSX hC hCX (by decide +kernel) kl5_31 (by decide) ((s_requireState (km D G) 1)) rfl rfl (by simp [kOkL, kOk, hx]) (by simp [kOkS]) (Nat.le_of_ble_eq_true rfl) (Nat.le_of_ble_eq_true rfl) (Nat.le_of_ble_eq_true rfl) ?_ ?_
    · rintro v M' ⟨rfl, rfl, h⟩
      refine kwX5_addLane_19 hC hE ?_
      simp only [kbX5_addLane_19, mX5_addLane, kblk, kstp, kent, kpad, kget, kst1, kst2, kc2, cond_false, cond_true, kfv, kfit, kOkf, kputv, kputD, kputG, kcpy, kcat, kRR, kNN, true_and, and_true, if_true, if_false, if_pos, Nat.reduceAdd, Nat.reduceEqDiff, Nat.reduceLeDiff, Nat.reduceLT, reduceIte, Prod.mk.injEq, eq_self, false_and, and_false, reduceCtorEq, Nat.reduceSub, List.reverse_cons, List.reverse_nil, List.nil_append, List.cons_append, Option.toList_some, Option.toList_none, not_true_eq_false, not_false_eq_true, hx, hlive]
      refine KW_callV hC (by decide +kernel) kl5_51 (by decide) ((s_makeLane hr hn)) rfl rfl (Nat.le_of_ble_eq_true rfl) rfl hlive (by simp [kOkL, kOk, hx]) (by simp [kOkS]) (Nat.le_of_ble_eq_true rfl) (Nat.le_of_ble_eq_true rfl) (Nat.le_of_ble_eq_true rfl) ?_
      rintro v M' ⟨rfl, hp⟩
      refine kwX5_addLane_26 hC hE ?_
      simp only [kbX5_addLane_26, mX5_addLane, kblk, kstp, kent, kpad, kget, kst1, kst2, kc2, cond_false, cond_true, kfv, kfit, kOkf, kputv, kputD, kputG, kcpy, kcat, kRR, kNN, true_and, and_true, if_true, if_false, if_pos, Nat.reduceAdd, Nat.reduceEqDiff, Nat.reduceLeDiff, Nat.reduceLT, reduceIte, Prod.mk.injEq, eq_self, false_and, and_false, reduceCtorEq, Nat.reduceSub, List.reverse_cons, List.reverse_nil, List.nil_append, List.cons_append, Option.toList_some, Option.toList_none, not_true_eq_false, not_false_eq_true]
      exact ⟨⟨rfl, hn, kPub_0 hp⟩, trivial, Nat.le_refl _, Nat.le_refl _⟩
    · rintro E M' ⟨rfl, rfl, h⟩
      exact absurd h (by decide)
theorem s_addChair (hr : kRep 0 D σ) (hs : kS σ) (n : Int32) : SpX mX5_addChair 2 12 [kR (some (5, 9, 0)), kI n] (km D G) (fun v M' => v = some (kI (nI (tC σ))) ∧ (1 ≤ n ∧ n ≤ 6) ∧ tC σ < 20 ∧ kPub D G (mkChair σ n) M') (fun E M' => ((E = kIAE ∧ ¬ (1 ≤ n ∧ n ≤ 6)) ∨ (E = kISE ∧ (1 ≤ n ∧ n ≤ 6) ∧ ¬ tC σ < 20)) ∧ M' = km D G) := by
  refine SpX_of (own := 5) (by decide +kernel) rfl (Nat.le_of_ble_eq_true rfl) ?_
  intro X hC hCX hE hL0 hTw hTh
  have hx := kx_live
  have hlive : kLive (3, 0, 0) := ⟨by decide, rfl⟩
  have c5 := hr.old.1.1
  have hb := hr.1.1
  refine kwX5_addChair_0 hC hE ?_
  simp only [kbX5_addChair_0, mX5_addChair, kblk, kstp, kent, kpad, kget, kst1, kst2, kc2, cond_false, cond_true, kfv, kfit, kOkf, kputv, kputD, kputG, kcpy, kcat, kRR, kNN, true_and, and_true, if_true, if_false, if_pos, Nat.reduceAdd, Nat.reduceEqDiff, Nat.reduceLeDiff, Nat.reduceLT, reduceIte, Prod.mk.injEq, eq_self, false_and, and_false, reduceCtorEq, Nat.reduceSub, List.reverse_cons, List.reverse_nil, List.nil_append, List.cons_append, Option.toList_some, Option.toList_none, not_true_eq_false, not_false_eq_true]
  refine KW_callS hC (by decide +kernel) kl5_19 (by decide) ((s_isWithin (km D G) n 1 6)) rfl rfl (by simp [kOkL, kOk, hx]) (by simp [kOkS]) (Nat.le_of_ble_eq_true rfl) (Nat.le_of_ble_eq_true rfl) (Nat.le_of_ble_eq_true rfl) ?_
  rintro v M' ⟨rfl, rfl⟩
  refine KW_callSX hC hCX (by decide +kernel) kl5_23 (by decide) ((s_requireArgument (km D G) _)) rfl rfl (by simp [kOkL, kOk, hx]) (by simp [kOkS]) (Nat.le_of_ble_eq_true rfl) (Nat.le_of_ble_eq_true rfl) (Nat.le_of_ble_eq_true rfl) ?_ ?_
  · rintro v M' ⟨rfl, rfl, h⟩
    have hc : 1 ≤ n ∧ n ≤ 6 := Classical.byContradiction fun z => h (if_neg z)
    refine kwX5_addChair_10 hC hE ?_
    simp only [kbX5_addChair_10, mX5_addChair, kblk, kstp, kent, kpad, kget, kst1, kst2, kc2, cond_false, cond_true, kfv, kfit, kOkf, kputv, kputD, kputG, kcpy, kcat, kRR, kNN, true_and, and_true, if_true, if_false, if_pos, Nat.reduceAdd, Nat.reduceEqDiff, Nat.reduceLeDiff, Nat.reduceLT, reduceIte, Prod.mk.injEq, eq_self, false_and, and_false, reduceCtorEq, Nat.reduceSub, List.reverse_cons, List.reverse_nil, List.nil_append, List.cons_append, Option.toList_some, Option.toList_none, not_true_eq_false, not_false_eq_true, hx, hlive, c5]
    refine ⟨fun h => ?_, fun h => ?_⟩
    · have hn : ¬ tC σ < 20 := fun z => absurd h (nI_ge (a := tC σ) (b := 20) z (by decide))
      refine kwX5_addChair_26 hC hE ?_
      simp only [kbX5_addChair_26, mX5_addChair, kblk, kstp, kent, kpad, kget, kst1, kst2, kc2, cond_false, cond_true, kfv, kfit, kOkf, kputv, kputD, kputG, kcpy, kcat, kRR, kNN, true_and, and_true, if_true, if_false, if_pos, Nat.reduceAdd, Nat.reduceEqDiff, Nat.reduceLeDiff, Nat.reduceLT, reduceIte, Prod.mk.injEq, eq_self, false_and, and_false, reduceCtorEq, Nat.reduceSub, List.reverse_cons, List.reverse_nil, List.nil_append, List.cons_append, Option.toList_some, Option.toList_none, not_true_eq_false, not_false_eq_true]
      refine KW_callSX hC hCX (by decide +kernel) kl5_31 (by decide) ((s_requireState (km D G) 0)) rfl rfl (by simp [kOkL, kOk, hx]) (by simp [kOkS]) (Nat.le_of_ble_eq_true rfl) (Nat.le_of_ble_eq_true rfl) (Nat.le_of_ble_eq_true rfl) ?_ ?_
      · rintro v M' ⟨rfl, rfl, h⟩
        exact absurd rfl h
      · rintro E M' ⟨rfl, rfl, h⟩
        exact hTw _ _ _ _ _ ⟨Or.inr ⟨rfl, hc, hn⟩, rfl⟩ (Nat.le_refl _) (Nat.le_refl _)
    · have hn : tC σ < 20 := nI_ltr (b := 20) (by omega) (by decide) (Int32.not_le.mp h)
      refine kwX5_addChair_22 hC hE ?_
      simp only [kbX5_addChair_22, mX5_addChair, kblk, kstp, kent, kpad, kget, kst1, kst2, kc2, cond_false, cond_true, kfv, kfit, kOkf, kputv, kputD, kputG, kcpy, kcat, kRR, kNN, true_and, and_true, if_true, if_false, if_pos, Nat.reduceAdd, Nat.reduceEqDiff, Nat.reduceLeDiff, Nat.reduceLT, reduceIte, Prod.mk.injEq, eq_self, false_and, and_false, reduceCtorEq, Nat.reduceSub, List.reverse_cons, List.reverse_nil, List.nil_append, List.cons_append, Option.toList_some, Option.toList_none, not_true_eq_false, not_false_eq_true]
      refine KW_callSX hC hCX (by decide +kernel) kl5_31 (by decide) ((s_requireState (km D G) 1)) rfl rfl (by simp [kOkL, kOk, hx]) (by simp [kOkS]) (Nat.le_of_ble_eq_true rfl) (Nat.le_of_ble_eq_true rfl) (Nat.le_of_ble_eq_true rfl) ?_ ?_
      · rintro v M' ⟨rfl, rfl, h⟩
        refine kwX5_addChair_30 hC hE ?_
        simp only [kbX5_addChair_30, mX5_addChair, kblk, kstp, kent, kpad, kget, kst1, kst2, kc2, cond_false, cond_true, kfv, kfit, kOkf, kputv, kputD, kputG, kcpy, kcat, kRR, kNN, true_and, and_true, if_true, if_false, if_pos, Nat.reduceAdd, Nat.reduceEqDiff, Nat.reduceLeDiff, Nat.reduceLT, reduceIte, Prod.mk.injEq, eq_self, false_and, and_false, reduceCtorEq, Nat.reduceSub, List.reverse_cons, List.reverse_nil, List.nil_append, List.cons_append, Option.toList_some, Option.toList_none, not_true_eq_false, not_false_eq_true, hx, hlive]
        refine KW_callV hC (by decide +kernel) kl5_41 (by decide) ((s_makeChair hr hs hn n)) rfl rfl (Nat.le_of_ble_eq_true rfl) rfl hlive (by simp [kOkL, kOk, hx]) (by simp [kOkS]) (Nat.le_of_ble_eq_true rfl) (Nat.le_of_ble_eq_true rfl) (Nat.le_of_ble_eq_true rfl) ?_
        rintro v M' ⟨rfl, hp⟩
        refine kwX5_addChair_38 hC hE ?_
        simp only [kbX5_addChair_38, mX5_addChair, kblk, kstp, kent, kpad, kget, kst1, kst2, kc2, cond_false, cond_true, kfv, kfit, kOkf, kputv, kputD, kputG, kcpy, kcat, kRR, kNN, true_and, and_true, if_true, if_false, if_pos, Nat.reduceAdd, Nat.reduceEqDiff, Nat.reduceLeDiff, Nat.reduceLT, reduceIte, Prod.mk.injEq, eq_self, false_and, and_false, reduceCtorEq, Nat.reduceSub, List.reverse_cons, List.reverse_nil, List.nil_append, List.cons_append, Option.toList_some, Option.toList_none, not_true_eq_false, not_false_eq_true]
        exact ⟨⟨rfl, hc, hn, kPub_0 hp⟩, trivial, Nat.le_refl _, Nat.le_refl _⟩
      · rintro E M' ⟨rfl, rfl, h⟩
        exact absurd h (by decide)
  · rintro E M' ⟨rfl, rfl, h⟩
    exact hTw _ _ _ _ _ ⟨Or.inl ⟨rfl, fun z => by rw [if_pos z] at h; exact absurd h (by decide)⟩, rfl⟩ (Nat.le_of_ble_eq_true rfl) (Nat.le_of_ble_eq_true rfl)
end LIFT3

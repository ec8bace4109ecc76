/-! ChairLift: its guards and first methods. -/
section GUARDS
theorem s_requireArgument (M : KM) (b : Int32) : SpX mX5_requireArgument 1 6 [kI b] M (fun v M' => v = none ∧ M' = M ∧ ¬ b = 0) (fun E M' => E = kIAE ∧ M' = M ∧ b = 0) := by
  refine SpX_of (own := 5) (by decide +kernel) rfl (Nat.le_of_ble_eq_true rfl) ?_
  intro X hC hCX hE hL0 hTw hTh
  refine kwX5_requireArgument_0 hC hE ?_
  simp only [kbX5_requireArgument_0, mX5_requireArgument, kblk, kstp, kent, kpad, kget, kst1, kst2, kc2, cond_false, cond_true, kfv, kfit, kOkf, kputv, kputD, kputG, kcpy, kcat, kRR, kNN, true_and, and_true, if_true, if_false, if_pos, Nat.reduceAdd, Nat.reduceEqDiff, Nat.reduceLeDiff, Nat.reduceLT, reduceIte, Prod.mk.injEq, eq_self, false_and, and_false, reduceCtorEq, Nat.reduceSub, List.reverse_cons, List.reverse_nil, List.nil_append, List.cons_append, Option.toList_some, Option.toList_none, not_true_eq_false, not_false_eq_true]
  refine ⟨fun h => ?_, fun h => ?_⟩
  · refine kwX5_requireArgument_14 hC hE ?_
    simp only [kbX5_requireArgument_14, mX5_requireArgument, kblk, kstp, kent, kpad, kget, kst1, kst2, kc2, cond_false, cond_true, kfv, kfit, kOkf, kputv, kputD, kputG, kcpy, kcat, kRR, kNN, true_and, and_true, if_true, if_false, if_pos, Nat.reduceAdd, Nat.reduceEqDiff, Nat.reduceLeDiff, Nat.reduceLT, reduceIte, Prod.mk.injEq, eq_self, false_and, and_false, reduceCtorEq, Nat.reduceSub, List.reverse_cons, List.reverse_nil, List.nil_append, List.cons_append, Option.toList_some, Option.toList_none, not_true_eq_false, not_false_eq_true]
    exact ⟨⟨rfl, rfl, h⟩, trivial, Nat.zero_le _, Nat.zero_le _⟩
  · exact hTh 4 kIAE _ _ _ _ _ ⟨_, rfl, rfl, by decide +kernel, by decide +kernel, by decide +kernel, by decide +kernel, by decide +kernel⟩ ⟨rfl, rfl, h⟩ (by decide +kernel) (by decide +kernel) (by decide) (by decide)
theorem s_requireState (M : KM) (b : Int32) : SpX mX5_requireState 1 6 [kI b] M (fun v M' => v = none ∧ M' = M ∧ ¬ b = 0) (fun E M' => E = kISE ∧ M' = M ∧ b = 0) := by
  refine SpX_of (own := 5) (by decide +kernel) rfl (Nat.le_of_ble_eq_true rfl) ?_
  intro X hC hCX hE hL0 hTw hTh
  refine kwX5_requireState_0 hC hE ?_
  simp only [kbX5_requireState_0, mX5_requireState, kblk, kstp, kent, kpad, kget, kst1, kst2, kc2, cond_false, cond_true, kfv, kfit, kOkf, kputv, kputD, kputG, kcpy, kcat, kRR, kNN, true_and, and_true, if_true, if_false, if_pos, Nat.reduceAdd, Nat.reduceEqDiff, Nat.reduceLeDiff, Nat.reduceLT, reduceIte, Prod.mk.injEq, eq_self, false_and, and_false, reduceCtorEq, Nat.reduceSub, List.reverse_cons, List.reverse_nil, List.nil_append, List.cons_append, Option.toList_some, Option.toList_none, not_true_eq_false, not_false_eq_true]
  refine ⟨fun h => ?_, fun h => ?_⟩
  · refine kwX5_requireState_14 hC hE ?_
    simp only [kbX5_requireState_14, mX5_requireState, kblk, kstp, kent, kpad, kget, kst1, kst2, kc2, cond_false, cond_true, kfv, kfit, kOkf, kputv, kputD, kputG, kcpy, kcat, kRR, kNN, true_and, and_true, if_true, if_false, if_pos, Nat.reduceAdd, Nat.reduceEqDiff, Nat.reduceLeDiff, Nat.reduceLT, reduceIte, Prod.mk.injEq, eq_self, false_and, and_false, reduceCtorEq, Nat.reduceSub, List.reverse_cons, List.reverse_nil, List.nil_append, List.cons_append, Option.toList_some, Option.toList_none, not_true_eq_false, not_false_eq_true]
    exact ⟨⟨rfl, rfl, h⟩, trivial, Nat.zero_le _, Nat.zero_le _⟩
  · exact hTh 4 kISE _ _ _ _ _ ⟨_, rfl, rfl, by decide +kernel, by decide +kernel, by decide +kernel, by decide +kernel, by decide +kernel⟩ ⟨rfl, rfl, h⟩ (by decide +kernel) (by decide +kernel) (by decide) (by decide)
theorem s_requireIndex (M : KM) (b : Int32) : SpX mX5_requireIndex 1 6 [kI b] M (fun v M' => v = none ∧ M' = M ∧ ¬ b = 0) (fun E M' => E = kIOE ∧ M' = M ∧ b = 0) := by
  refine SpX_of (own := 5) (by decide +kernel) rfl (Nat.le_of_ble_eq_true rfl) ?_
  intro X hC hCX hE hL0 hTw hTh
  refine kwX5_requireIndex_0 hC hE ?_
  simp only [kbX5_requireIndex_0, mX5_requireIndex, kblk, kstp, kent, kpad, kget, kst1, kst2, kc2, cond_false, cond_true, kfv, kfit, kOkf, kputv, kputD, kputG, kcpy, kcat, kRR, kNN, true_and, and_true, if_true, if_false, if_pos, Nat.reduceAdd, Nat.reduceEqDiff, Nat.reduceLeDiff, Nat.reduceLT, reduceIte, Prod.mk.injEq, eq_self, false_and, and_false, reduceCtorEq, Nat.reduceSub, List.reverse_cons, List.reverse_nil, List.nil_append, List.cons_append, Option.toList_some, Option.toList_none, not_true_eq_false, not_false_eq_true]
  refine ⟨fun h => ?_, fun h => ?_⟩
  · refine kwX5_requireIndex_14 hC hE ?_
    simp only [kbX5_requireIndex_14, mX5_requireIndex, kblk, kstp, kent, kpad, kget, kst1, kst2, kc2, cond_false, cond_true, kfv, kfit, kOkf, kputv, kputD, kputG, kcpy, kcat, kRR, kNN, true_and, and_true, if_true, if_false, if_pos, Nat.reduceAdd, Nat.reduceEqDiff, Nat.reduceLeDiff, Nat.reduceLT, reduceIte, Prod.mk.injEq, eq_self, false_and, and_false, reduceCtorEq, Nat.reduceSub, List.reverse_cons, List.reverse_nil, List.nil_append, List.cons_append, Option.toList_some, Option.toList_none, not_true_eq_false, not_false_eq_true]
    exact ⟨⟨rfl, rfl, h⟩, trivial, Nat.zero_le _, Nat.zero_le _⟩
  · exact hTh 4 kIOE _ _ _ _ _ ⟨_, rfl, rfl, by decide +kernel, by decide +kernel, by decide +kernel, by decide +kernel, by decide +kernel⟩ ⟨rfl, rfl, h⟩ (by decide +kernel) (by decide +kernel) (by decide) (by decide)
end GUARDS
section LIFT
variable {D : KI → Nat → Int32} {G : KI → Nat → Int64} {σ : KT}
/-- both lifts may have changed, the real one holds σ' -/
def kPub (D : KI → Nat → Int32) (G : KI → Nat → Int64) (σ' : KT) (M' : KM) : Prop := ∃ D', M' = km D' G ∧ kRep 0 D' σ' ∧ ∀ i : KI, i.2.1 ≠ 0 → i.2.1 ≠ 1 → D' i = D i
theorem kPub_0 {σ' : KT} {M' : KM} (h : kTo 0 D G σ' M') : kPub D G σ' M' := by
  obtain ⟨D', h1, h2, h3⟩ := h
  exact ⟨D', h1, h2, fun i h _ => h3 i h⟩
theorem kx_live : kLive (5, 9, 0) := ⟨rfl, rfl⟩
theorem s_want (hr : kRep 0 D σ) (n : Int32) : SpX mX5_want 1 6 [kR (some (5, 9, 0)), kI n] (km D G) (fun v M' => v = some (kI (tZ σ 39 0)) ∧ (0 ≤ n ∧ n ≤ 20) ∧ kPub D G (tset σ 39 0 n) M') (fun E M' => (E = kIAE ∧ ¬ (0 ≤ n ∧ n ≤ 20)) ∧ M' = km D G) := by
  refine SpX_of (own := 5) (by decide +kernel) rfl (Nat.le_of_ble_eq_true rfl) ?_
  intro X hC hCX hE hL0 hTw hTh
  have hx := kx_live
  have hlive : kLive (3, 0, 0) := ⟨by decide, rfl⟩
  have h9 := hr.old.2.1 9 (by decide) (by decide)
  refine kwX5_want_0 hC hE ?_
  simp only [kbX5_want_0, mX5_want, kblk, kstp, kent, kpad, kget, kst1, kst2, kc2, cond_false, cond_true, kfv, kfit, kOkf, kputv, kputD, kputG, kcpy, kcat, kRR, kNN, true_and, and_true, if_true, if_false, if_pos, Nat.reduceAdd, Nat.reduceEqDiff, Nat.reduceLeDiff, Nat.reduceLT, reduceIte, Prod.mk.injEq, eq_self, false_and, and_false, reduceCtorEq, Nat.reduceSub, List.reverse_cons, List.reverse_nil, List.nil_append, List.cons_append, Option.toList_some, Option.toList_none, not_true_eq_false, not_false_eq_true]
  refine KW_callS hC (by decide +kernel) kl5_19 (by decide) ((s_isWithin (km D G) n 0 20)) rfl rfl (by simp [kOkL, kOk, hx]) (by simp [kOkS]) (Nat.le_of_ble_eq_true rfl) (Nat.le_of_ble_eq_true rfl) (Nat.le_of_ble_eq_true rfl) ?_
  rintro v M' ⟨rfl, rfl⟩
  refine KW_callSX hC hCX (by decide +kernel) kl5_23 (by decide) ((s_requireArgument (km D G) _)) rfl rfl (by simp [kOkL, kOk, hx]) (by simp [kOkS]) (Nat.le_of_ble_eq_true rfl) (Nat.le_of_ble_eq_true rfl) (Nat.le_of_ble_eq_true rfl) ?_ ?_
  · rintro v M' ⟨rfl, rfl, h⟩
    have hc : 0 ≤ n ∧ n ≤ 20 := Classical.byContradiction fun z => h (if_neg z)
    refine kwX5_want_10 hC hE ?_
    simp only [kbX5_want_10, mX5_want, kblk, kstp, kent, kpad, kget, kst1, kst2, kc2, cond_false, cond_true, kfv, kfit, kOkf, kputv, kputD, kputG, kcpy, kcat, kRR, kNN, true_and, and_true, if_true, if_false, if_pos, Nat.reduceAdd, Nat.reduceEqDiff, Nat.reduceLeDiff, Nat.reduceLT, reduceIte, Prod.mk.injEq, eq_self, false_and, and_false, reduceCtorEq, Nat.reduceSub, List.reverse_cons, List.reverse_nil, List.nil_append, List.cons_append, Option.toList_some, Option.toList_none, not_true_eq_false, not_false_eq_true, hx, hlive, h9]
    exact ⟨⟨rfl, hc, kPub_0 ⟨_, rfl, rep_scal hr 9 n (by decide) (by decide), kOff.put⟩⟩, trivial, Nat.le_refl _, Nat.le_refl _⟩
  · rintro E M' ⟨rfl, rfl, h⟩
    exact hTw _ _ _ _ _ ⟨⟨rfl, fun z => by rw [if_pos z] at h; exact absurd h (by decide)⟩, rfl⟩ (Nat.le_refl _) (Nat.le_refl _)
end LIFT

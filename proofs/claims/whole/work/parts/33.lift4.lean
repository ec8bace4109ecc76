/-! ChairLift: looking at a chair, a group, a lane. -/
section LIFT4
variable {D : KI → Nat → Int32} {G : KI → Nat → Int64} {σ : KT}
theorem s_stretch (hr : kRep 0 D σ) (n : Int32) : SpX mX5_stretch 2 12 [kR (some (5, 9, 0)), kI n] (km D G) (fun v M' => v = some (kI (tZ σ 38 0)) ∧ (2 ≤ n ∧ n ≤ 12) ∧ tOnRope σ = 0 ∧ kPub D G (tset σ 38 0 n) M') (fun E M' => ((E = kIAE ∧ ¬ (2 ≤ n ∧ n ≤ 12)) ∨ (E = kISE ∧ (2 ≤ n ∧ n ≤ 12) ∧ ¬ tOnRope σ = 0)) ∧ M' = km D G) := by
  refine SpX_of (own := 5) (by decide +kernel) rfl (Nat.le_of_ble_eq_true rfl) ?_
  intro X hC hCX hE hL0 hTw hTh
  have hx := kx_live
  have hlive : kLive (3, 0, 0) := ⟨by decide, rfl⟩
  have h8 := hr.old.2.1 8 (by decide) (by decide)
  refine kwX5_stretch_0 hC hE ?_
  simp only [kbX5_stretch_0, mX5_stretch, kblk, kstp, kent, kpad, kget, kst1, kst2, kc2, cond_false, cond_true, kfv, kfit, kOkf, kputv, kputD, kputG, kcpy, kcat, kRR, kNN, true_and, and_true, if_true, if_false, if_pos, Nat.reduceAdd, Nat.reduceEqDiff, Nat.reduceLeDiff, Nat.reduceLT, reduceIte, Prod.mk.injEq, eq_self, false_and, and_false, reduceCtorEq, Nat.reduceSub, List.reverse_cons, List.reverse_nil, List.nil_append, List.cons_append, Option.toList_some, Option.toList_none, not_true_eq_false, not_false_eq_true]
  refine KW_callS hC (by decide +kernel) kl5_19 (by decide) ((s_isWithin (km D G) n 2 12)) rfl rfl (by simp [kOkL, kOk, hx]) (by simp [kOkS]) (Nat.le_of_ble_eq_true rfl) (Nat.le_of_ble_eq_true rfl) (Nat.le_of_ble_eq_true rfl) ?_
  rintro v M' ⟨rfl, rfl⟩
  refine KW_callSX hC hCX (by decide +kernel) kl5_23 (by decide) ((s_requireArgument (km D G) _)) rfl rfl (by simp [kOkL, kOk, hx]) (by simp [kOkS]) (Nat.le_of_ble_eq_true rfl) (Nat.le_of_ble_eq_true rfl) (Nat.le_of_ble_eq_true rfl) ?_ ?_
  · rintro v M' ⟨rfl, rfl, h⟩
    have hc : 2 ≤ n ∧ n ≤ 12 := Classical.byContradiction fun z => h (if_neg z)
    refine kwX5_stretch_10 hC hE ?_
    simp only [kbX5_stretch_10, mX5_stretch, kblk, kstp, kent, kpad, kget, kst1, kst2, kc2, cond_false, cond_true, kfv, kfit, kOkf, kputv, kputD, kputG, kcpy, kcat, kRR, kNN, true_and, and_true, if_true, if_false, if_pos, Nat.reduceAdd, Nat.reduceEqDiff, Nat.reduceLeDiff, Nat.reduceLT, reduceIte, Prod.mk.injEq, eq_self, false_and, and_false, reduceCtorEq, Nat.reduceSub, List.reverse_cons, List.reverse_nil, List.nil_append, List.cons_append, Option.toList_some, Option.toList_none, not_true_eq_false, not_false_eq_true, hx, hlive]
    refine KW_callV hC (by decide +kernel) kl5_27 (by decide) ((s_chairsOnRope (by decide) hr)) rfl rfl (Nat.le_of_ble_eq_true rfl) rfl hlive (by simp [kOkL, kOk, hx]) (by simp [kOkS]) (Nat.le_of_ble_eq_true rfl) (Nat.le_of_ble_eq_true rfl) (Nat.le_of_ble_eq_true rfl) ?_
    rintro v M' ⟨rfl, rfl⟩
    refine kwX5_stretch_17 hC hE ?_
    simp only [kbX5_stretch_17, mX5_stretch, kblk, kstp, kent, kpad, kget, kst1, kst2, kc2, cond_false, cond_true, kfv, kfit, kOkf, kputv, kputD, kputG, kcpy, kcat, kRR, kNN, true_and, and_true, if_true, if_false, if_pos, Nat.reduceAdd, Nat.reduceEqDiff, Nat.reduceLeDiff, Nat.reduceLT, reduceIte, Prod.mk.injEq, eq_self, false_and, and_false, reduceCtorEq, Nat.reduceSub, List.reverse_cons, List.reverse_nil, List.nil_append, List.cons_append, Option.toList_some, Option.toList_none, not_true_eq_false, not_false_eq_true]
    refine ⟨fun hn => ?_, fun hn => ?_⟩
    · refine kwX5_stretch_24 hC hE ?_
      simp only [kbX5_stretch_24, mX5_stretch, kblk, kstp, kent, kpad, kget, kst1, kst2, kc2, cond_false, cond_true, kfv, kfit, kOkf, kputv, kputD, kputG, kcpy, kcat, kRR, kNN, true_and, and_true, if_true, if_false, if_pos, Nat.reduceAdd, Nat.reduceEqDiff, Nat.reduceLeDiff, Nat.reduceLT, reduceIte, Prod.mk.injEq, eq_self, false_and, and_false, reduceCtorEq, Nat.reduceSub, List.reverse_cons, List.reverse_nil, List.nil_append, List.cons_append, Option.toList_some, Option.toList_none, not_true_eq_false, not_false_eq_true]
      refine KW_callSX hC hCX (by decide +kernel) kl5_31 (by decide) ((s_requireState (km D G) 0)) rfl rfl (by simp [kOkL, kOk, hx]) (by simp [kOkS]) (Nat.le_of_ble_eq_true rfl) (Nat.le_of_ble_eq_true rfl) (Nat.le_of_ble_eq_true rfl) ?_ ?_
      · rintro v M' ⟨rfl, rfl, h⟩
        exact absurd rfl h
      · rintro E M' ⟨rfl, rfl, h⟩
        exact hTw _ _ _ _ _ ⟨Or.inr ⟨rfl, hc, hn⟩, rfl⟩ (Nat.le_refl _) (Nat.le_refl _)
    · refine kwX5_stretch_20 hC hE ?_
      simp only [kbX5_stretch_20, mX5_stretch, kblk, kstp, kent, kpad, kget, kst1, kst2, kc2, cond_false, cond_true, kfv, kfit, kOkf, kputv, kputD, kputG, kcpy, kcat, kRR, kNN, true_and, and_true, if_true, if_false, if_pos, Nat.reduceAdd, Nat.reduceEqDiff, Nat.reduceLeDiff, Nat.reduceLT, reduceIte, Prod.mk.injEq, eq_self, false_and, and_false, reduceCtorEq, Nat.reduceSub, List.reverse_cons, List.reverse_nil, List.nil_append, List.cons_append, Option.toList_some, Option.toList_none, not_true_eq_false, not_false_eq_true]
      refine KW_callSX hC hCX (by decide +kernel) kl5_31 (by decide) ((s_requireState (km D G) 1)) rfl rfl (by simp [kOkL, kOk, hx]) (by simp [kOkS]) (Nat.le_of_ble_eq_true rfl) (Nat.le_of_ble_eq_true rfl) (Nat.le_of_ble_eq_true rfl) ?_ ?_
      · rintro v M' ⟨rfl, rfl, h⟩
        refine kwX5_stretch_28 hC hE ?_
        simp only [kbX5_stretch_28, mX5_stretch, kblk, kstp, kent, kpad, kget, kst1, kst2, kc2, cond_false, cond_true, kfv, kfit, kOkf, kputv, kputD, kputG, kcpy, kcat, kRR, kNN, true_and, and_true, if_true, if_false, if_pos, Nat.reduceAdd, Nat.reduceEqDiff, Nat.reduceLeDiff, Nat.reduceLT, reduceIte, Prod.mk.injEq, eq_self, false_and, and_false, reduceCtorEq, Nat.reduceSub, List.reverse_cons, List.reverse_nil, List.nil_append, List.cons_append, Option.toList_some, Option.toList_none, not_true_eq_false, not_false_eq_true, hx, hlive, h8]
        exact ⟨⟨rfl, hc, hn, kPub_0 ⟨_, rfl, rep_scal hr 8 n (by decide) (by decide), kOff.put⟩⟩, trivial, Nat.le_refl _, Nat.le_refl _⟩
      · rintro E M' ⟨rfl, rfl, h⟩
        exact absurd h (by decide)
  · rintro E M' ⟨rfl, rfl, h⟩
    exact hTw _ _ _ _ _ ⟨Or.inl ⟨rfl, fun z => by rw [if_pos z] at h; exact absurd h (by decide)⟩, rfl⟩ (Nat.le_of_ble_eq_true rfl) (Nat.le_of_ble_eq_true rfl)
end LIFT4

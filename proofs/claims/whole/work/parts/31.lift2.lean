/-! ChairLift: more of its methods. -/
section LIFT2
variable {D : KI → Nat → Int32} {G : KI → Nat → Int64} {σ : KT}
theorem s_isLane (hr : kRep 0 D σ) (n : Int32) : SpQ mX5_isLane 0 0 [kR (some (5, 9, 0)), kI n] (km D G) (fun v M' => v = some (kI (if 0 ≤ n ∧ n < nI (tL σ) then 1 else 0)) ∧ M' = km D G) := by
  refine SpQ_of (own := 5) (ini := false) (by decide +kernel) rfl (by decide) (Nat.le_of_ble_eq_true rfl) ?_
  intro X hC hE hL0
  have hx := kx_live
  have hlive : kLive (3, 0, 0) := ⟨by decide, rfl⟩
  have c6 := hr.old.1.2.1
  refine kwX5_isLane_0 hC hE ?_
  simp only [kbX5_isLane_0, mX5_isLane, kblk, kstp, kent, kpad, kget, kst1, kst2, kc2, cond_false, cond_true, kfv, kfit, kOkf, kputv, kputD, kputG, kcpy, kcat, kRR, kNN, true_and, and_true, if_true, if_false, if_pos, Nat.reduceAdd, Nat.reduceEqDiff, Nat.reduceLeDiff, Nat.reduceLT, reduceIte, Prod.mk.injEq, eq_self, false_and, and_false, reduceCtorEq, Nat.reduceSub, List.reverse_cons, List.reverse_nil, List.nil_append, List.cons_append, Option.toList_some, Option.toList_none, not_true_eq_false, not_false_eq_true, hx, hlive, c6]
  refine KW_callS hC (by decide +kernel) kl5_71 (by decide) ((s_isBelow (km D G) n (nI (tL σ)))) rfl rfl (by simp [kOkL, kOk, hx]) (by simp [kOkS]) (Nat.le_of_ble_eq_true rfl) (Nat.le_of_ble_eq_true rfl) (Nat.le_of_ble_eq_true rfl) ?_
  rintro v M' ⟨rfl, rfl⟩
  refine kwX5_isLane_11 hC hE ?_
  simp only [kbX5_isLane_11, mX5_isLane, kblk, kstp, kent, kpad, kget, kst1, kst2, kc2, cond_false, cond_true, kfv, kfit, kOkf, kputv, kputD, kputG, kcpy, kcat, kRR, kNN, true_and, and_true, if_true, if_false, if_pos, Nat.reduceAdd, Nat.reduceEqDiff, Nat.reduceLeDiff, Nat.reduceLT, reduceIte, Prod.mk.injEq, eq_self, false_and, and_false, reduceCtorEq, Nat.reduceSub, List.reverse_cons, List.reverse_nil, List.nil_append, List.cons_append, Option.toList_some, Option.toList_none, not_true_eq_false, not_false_eq_true]
  refine ⟨⟨rfl, rfl⟩, ?_, Nat.le_refl _, Nat.le_refl _⟩
  by_cases h : 0 ≤ n ∧ n < nI (tL σ)
  · exact Or.inr (if_pos h)
  · exact Or.inl (if_neg h)
theorem s_isGroup (hr : kRep 0 D σ) (n : Int32) : SpQ mX5_isGroup 0 0 [kR (some (5, 9, 0)), kI n] (km D G) (fun v M' => v = some (kI (if 0 ≤ n ∧ n < nI (tG σ) then 1 else 0)) ∧ M' = km D G) := by
  refine SpQ_of (own := 5) (ini := false) (by decide +kernel) rfl (by decide) (Nat.le_of_ble_eq_true rfl) ?_
  intro X hC hE hL0
  have hx := kx_live
  have hlive : kLive (3, 0, 0) := ⟨by decide, rfl⟩
  have c7 := hr.old.1.2.2
  refine kwX5_isGroup_0 hC hE ?_
  simp only [kbX5_isGroup_0, mX5_isGroup, kblk, kstp, kent, kpad, kget, kst1, kst2, kc2, cond_false, cond_true, kfv, kfit, kOkf, kputv, kputD, kputG, kcpy, kcat, kRR, kNN, true_and, and_true, if_true, if_false, if_pos, Nat.reduceAdd, Nat.reduceEqDiff, Nat.reduceLeDiff, Nat.reduceLT, reduceIte, Prod.mk.injEq, eq_self, false_and, and_false, reduceCtorEq, Nat.reduceSub, List.reverse_cons, List.reverse_nil, List.nil_append, List.cons_append, Option.toList_some, Option.toList_none, not_true_eq_false, not_false_eq_true, hx, hlive, c7]
  refine KW_callS hC (by decide +kernel) kl5_71 (by decide) ((s_isBelow (km D G) n (nI (tG σ)))) rfl rfl (by simp [kOkL, kOk, hx]) (by simp [kOkS]) (Nat.le_of_ble_eq_true rfl) (Nat.le_of_ble_eq_true rfl) (Nat.le_of_ble_eq_true rfl) ?_
  rintro v M' ⟨rfl, rfl⟩
  refine kwX5_isGroup_11 hC hE ?_
  simp only [kbX5_isGroup_11, mX5_isGroup, kblk, kstp, kent, kpad, kget, kst1, kst2, kc2, cond_false, cond_true, kfv, kfit, kOkf, kputv, kputD, kputG, kcpy, kcat, kRR, kNN, true_and, and_true, if_true, if_false, if_pos, Nat.reduceAdd, Nat.reduceEqDiff, Nat.reduceLeDiff, Nat.reduceLT, reduceIte, Prod.mk.injEq, eq_self, false_and, and_false, reduceCtorEq, Nat.reduceSub, List.reverse_cons, List.reverse_nil, List.nil_append, List.cons_append, Option.toList_some, Option.toList_none, not_true_eq_false, not_false_eq_true]
  refine ⟨⟨rfl, rfl⟩, ?_, Nat.le_refl _, Nat.le_refl _⟩
  by_cases h : 0 ≤ n ∧ n < nI (tG σ)
  · exact Or.inr (if_pos h)
  · exact Or.inl (if_neg h)
/-- an int in a range, as a number -/
theorem in_range {x : Int32} {n : Nat} (hn : n < 2 ^ 31) (h : 0 ≤ x ∧ x < nI n) : ∃ i, i < n ∧ x = nI i := by
  obtain ⟨h1, h2⟩ := h
  rw [Int32.le_iff_toInt_le] at h1
  rw [Int32.lt_iff_toInt_lt, nI_toInt hn] at h2
  have h0 : (0 : Int32).toInt = 0 := rfl
  rw [h0] at h1
  refine ⟨x.toInt.toNat, by omega, ?_⟩
  rw [← Int32.toInt_inj, nI_toInt (by omega)]
  omega
theorem s_count (hr : kRep 0 D σ) (hs : kS σ) (n : Int32) : SpX mX5_count 1 6 [kR (some (5, 9, 0)), kI n] (km D G) (fun v M' => (∃ i, i < 13 ∧ n = nI i ∧ v = some (kI (tFact σ i))) ∧ M' = km D G) (fun E M' => (E = kIOE ∧ ¬ (0 ≤ n ∧ n < 13)) ∧ M' = km D G) := by
  refine SpX_of (own := 5) (by decide +kernel) rfl (Nat.le_of_ble_eq_true rfl) ?_
  intro X hC hCX hE hL0 hTw hTh
  have hx := kx_live
  have hlive : kLive (3, 0, 0) := ⟨by decide, rfl⟩
  refine kwX5_count_0 hC hE ?_
  simp only [kbX5_count_0, mX5_count, kblk, kstp, kent, kpad, kget, kst1, kst2, kc2, cond_false, cond_true, kfv, kfit, kOkf, kputv, kputD, kputG, kcpy, kcat, kRR, kNN, true_and, and_true, if_true, if_false, if_pos, Nat.reduceAdd, Nat.reduceEqDiff, Nat.reduceLeDiff, Nat.reduceLT, reduceIte, Prod.mk.injEq, eq_self, false_and, and_false, reduceCtorEq, Nat.reduceSub, List.reverse_cons, List.reverse_nil, List.nil_append, List.cons_append, Option.toList_some, Option.toList_none, not_true_eq_false, not_false_eq_true]
  refine KW_callS hC (by decide +kernel) kl5_71 (by decide) ((s_isBelow (km D G) n 13)) rfl rfl (by simp [kOkL, kOk, hx]) (by simp [kOkS]) (Nat.le_of_ble_eq_true rfl) (Nat.le_of_ble_eq_true rfl) (Nat.le_of_ble_eq_true rfl) ?_
  rintro v M' ⟨rfl, rfl⟩
  refine KW_callSX hC hCX (by decide +kernel) kl5_58 (by decide) ((s_requireIndex (km D G) _)) rfl rfl (by simp [kOkL, kOk, hx]) (by simp [kOkS]) (Nat.le_of_ble_eq_true rfl) (Nat.le_of_ble_eq_true rfl) (Nat.le_of_ble_eq_true rfl) ?_ ?_
  · rintro v M' ⟨rfl, rfl, h⟩
    have hc : 0 ≤ n ∧ n < 13 := Classical.byContradiction fun z => h (if_neg z)
    obtain ⟨i, hi, rfl⟩ := in_range (n := 13) (by decide) hc
    refine kwX5_count_9 hC hE ?_
    simp only [kbX5_count_9, mX5_count, kblk, kstp, kent, kpad, kget, kst1, kst2, kc2, cond_false, cond_true, kfv, kfit, kOkf, kputv, kputD, kputG, kcpy, kcat, kRR, kNN, true_and, and_true, if_true, if_false, if_pos, Nat.reduceAdd, Nat.reduceEqDiff, Nat.reduceLeDiff, Nat.reduceLT, reduceIte, Prod.mk.injEq, eq_self, false_and, and_false, reduceCtorEq, Nat.reduceSub, List.reverse_cons, List.reverse_nil, List.nil_append, List.cons_append, Option.toList_some, Option.toList_none, not_true_eq_false, not_false_eq_true, hx, hlive]
    refine KW_callV hC (by decide +kernel) kl5_144 (by decide) ((s_fact (by decide) hr hs.1 hi)) rfl rfl (Nat.le_of_ble_eq_true rfl) rfl hlive (by simp [kOkL, kOk, hx]) (by simp [kOkS]) (Nat.le_of_ble_eq_true rfl) (Nat.le_of_ble_eq_true rfl) (Nat.le_of_ble_eq_true rfl) ?_
    rintro v M' ⟨rfl, rfl⟩
    refine kwX5_count_17 hC hE ?_
    simp only [kbX5_count_17, mX5_count, kblk, kstp, kent, kpad, kget, kst1, kst2, kc2, cond_false, cond_true, kfv, kfit, kOkf, kputv, kputD, kputG, kcpy, kcat, kRR, kNN, true_and, and_true, if_true, if_false, if_pos, Nat.reduceAdd, Nat.reduceEqDiff, Nat.reduceLeDiff, Nat.reduceLT, reduceIte, Prod.mk.injEq, eq_self, false_and, and_false, reduceCtorEq, Nat.reduceSub, List.reverse_cons, List.reverse_nil, List.nil_append, List.cons_append, Option.toList_some, Option.toList_none, not_true_eq_false, not_false_eq_true]
    exact ⟨⟨⟨i, hi, rfl, rfl⟩, rfl⟩, trivial, Nat.le_refl _, Nat.le_refl _⟩
  · rintro E M' ⟨rfl, rfl, h⟩
    exact hTw _ _ _ _ _ ⟨⟨rfl, fun z => by rw [if_pos z] at h; exact absurd h (by decide)⟩, rfl⟩ (Nat.le_refl _) (Nat.le_refl _)
theorem s_setWind (hr : kRep 0 D σ) (t w : Int32) : SpX mX5_setWind 2 12 [kR (some (5, 9, 0)), kI t, kI w] (km D G) (fun v M' => (∃ i, i < 24 ∧ t = nI i ∧ v = some (kI (tZ σ 50 i)) ∧ kPub D G (tset σ 50 i w) M') ∧ 0 ≤ w ∧ w ≤ 9) (fun E M' => ((E = kIOE ∧ ¬ (0 ≤ t ∧ t < 24)) ∨ (E = kIAE ∧ (0 ≤ t ∧ t < 24) ∧ ¬ (0 ≤ w ∧ w ≤ 9))) ∧ M' = km D G) := by
  refine SpX_of (own := 5) (by decide +kernel) rfl (Nat.le_of_ble_eq_true rfl) ?_
  intro X hC hCX hE hL0 hTw hTh
  have hx := kx_live
  have hlive : kLive (3, 0, 0) := ⟨by decide, rfl⟩
  have hlw : kLive (8, 0, 0) := Or.inl ⟨by decide, by decide⟩
  have hN := kN_wind (show 0 < 2 by decide)
  refine kwX5_setWind_0 hC hE ?_
  simp only [kbX5_setWind_0, mX5_setWind, kblk, kstp, kent, kpad, kget, kst1, kst2, kc2, cond_false, cond_true, kfv, kfit, kOkf, kputv, kputD, kputG, kcpy, kcat, kRR, kNN, true_and, and_true, if_true, if_false, if_pos, Nat.reduceAdd, Nat.reduceEqDiff, Nat.reduceLeDiff, Nat.reduceLT, reduceIte, Prod.mk.injEq, eq_self, false_and, and_false, reduceCtorEq, Nat.reduceSub, List.reverse_cons, List.reverse_nil, List.nil_append, List.cons_append, Option.toList_some, Option.toList_none, not_true_eq_false, not_false_eq_true]
  refine KW_callS hC (by decide +kernel) kl5_71 (by decide) ((s_isBelow (km D G) t 24)) rfl rfl (by simp [kOkL, kOk, hx]) (by simp [kOkS]) (Nat.le_of_ble_eq_true rfl) (Nat.le_of_ble_eq_true rfl) (Nat.le_of_ble_eq_true rfl) ?_
  rintro v M' ⟨rfl, rfl⟩
  refine KW_callSX hC hCX (by decide +kernel) kl5_58 (by decide) ((s_requireIndex (km D G) _)) rfl rfl (by simp [kOkL, kOk, hx]) (by simp [kOkS]) (Nat.le_of_ble_eq_true rfl) (Nat.le_of_ble_eq_true rfl) (Nat.le_of_ble_eq_true rfl) ?_ ?_
  · rintro v M' ⟨rfl, rfl, h⟩
    have hc : 0 ≤ t ∧ t < 24 := Classical.byContradiction fun z => h (if_neg z)
    refine kwX5_setWind_9 hC hE ?_
    simp only [kbX5_setWind_9, mX5_setWind, kblk, kstp, kent, kpad, kget, kst1, kst2, kc2, cond_false, cond_true, kfv, kfit, kOkf, kputv, kputD, kputG, kcpy, kcat, kRR, kNN, true_and, and_true, if_true, if_false, if_pos, Nat.reduceAdd, Nat.reduceEqDiff, Nat.reduceLeDiff, Nat.reduceLT, reduceIte, Prod.mk.injEq, eq_self, false_and, and_false, reduceCtorEq, Nat.reduceSub, List.reverse_cons, List.reverse_nil, List.nil_append, List.cons_append, Option.toList_some, Option.toList_none, not_true_eq_false, not_false_eq_true]
    refine KW_callS hC (by decide +kernel) kl5_19 (by decide) ((s_isWithin (km D G) w 0 9)) rfl rfl (by simp [kOkL, kOk, hx]) (by simp [kOkS]) (Nat.le_of_ble_eq_true rfl) (Nat.le_of_ble_eq_true rfl) (Nat.le_of_ble_eq_true rfl) ?_
    rintro v M' ⟨rfl, rfl⟩
    refine KW_callSX hC hCX (by decide +kernel) kl5_23 (by decide) ((s_requireArgument (km D G) _)) rfl rfl (by simp [kOkL, kOk, hx]) (by simp [kOkS]) (Nat.le_of_ble_eq_true rfl) (Nat.le_of_ble_eq_true rfl) (Nat.le_of_ble_eq_true rfl) ?_ ?_
    · rintro v M' ⟨rfl, rfl, h2⟩
      have hc2 : 0 ≤ w ∧ w ≤ 9 := Classical.byContradiction fun z => h2 (if_neg z)
      obtain ⟨i, hi, rfl⟩ := in_range (n := 24) (by decide) hc
      have hw := hr.old.2.2.2.2.2.1 i hi
      refine kwX5_setWind_19 hC hE ?_
      simp only [kbX5_setWind_19, mX5_setWind, kblk, kstp, kent, kpad, kget, kst1, kst2, kc2, cond_false, cond_true, kfv, kfit, kOkf, kputv, kputD, kputG, kcpy, kcat, kRR, kNN, true_and, and_true, if_true, if_false, if_pos, Nat.reduceAdd, Nat.reduceEqDiff, Nat.reduceLeDiff, Nat.reduceLT, reduceIte, Prod.mk.injEq, eq_self, false_and, and_false, reduceCtorEq, Nat.reduceSub, List.reverse_cons, List.reverse_nil, List.nil_append, List.cons_append, Option.toList_some, Option.toList_none, not_true_eq_false, not_false_eq_true, hx, hlive, hlw, nI_clamp (show i < 2 ^ 31 by omega), hN, hw]
      refine ⟨vp_in_nI hi (by omega), vp_in_nI hi (by omega), ⟨⟨i, hi, rfl, rfl, kPub_0 ⟨_, rfl, rep_wind hr i w, kOff.put⟩⟩, hc2⟩, trivial, Nat.le_refl _, Nat.le_refl _⟩
    · rintro E M' ⟨rfl, rfl, h2⟩
      exact hTw _ _ _ _ _ ⟨Or.inr ⟨rfl, hc, fun z => by rw [if_pos z] at h2; exact absurd h2 (by decide)⟩, rfl⟩ (Nat.le_refl _) (Nat.le_refl _)
  · rintro E M' ⟨rfl, rfl, h⟩
    exact hTw _ _ _ _ _ ⟨Or.inl ⟨rfl, fun z => by rw [if_pos z] at h; exact absurd h (by decide)⟩, rfl⟩ (Nat.le_of_ble_eq_true rfl) (Nat.le_of_ble_eq_true rfl)
end LIFT2

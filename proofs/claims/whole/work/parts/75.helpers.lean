/-! The law's helpers. -/
theorem kx12_live : kLive (12, 9, 0) := ⟨rfl, rfl⟩
section HELPERS
variable {D : KI → Nat → Int32} {G : KI → Nat → Int64} {σ : KT}
set_option maxRecDepth 100000 in
theorem kcwL_stretch : Cond.codeWith mL_stretch.1 mL_stretch.2.1 mL_stretch.2.2.1 mL_stretch.2.2.2.1 [(0, 9, 12, 13), (0, 9, 15, 15)] ∈ kGW := kGW_in (by decide +kernel) (by decide +kernel)
theorem l_stretch (hr : kRep 0 D σ) {b0 h0 : Nat} (hw : kWf0 b0 h0 0 h0 σ) (hG : tG σ ≤ 90) (n : Int32) : SpW mL_stretch [(0, 9, 12, 13), (0, 9, 15, 15)] 2 12 [kR (some (5, 9, 0)), kI n, kR (some (12, 9, 0))] (km D G) (fun v M' => v = some (kI (rStretch σ n).1) ∧ hOut D G (rStretch σ n) M') := by
  refine SpW_of (by decide +kernel) rfl rfl (Nat.le_of_ble_eq_true rfl) ?_
  intro X hC hCX hE hT hL0
  have hs := hw.1
  have hbool := hw.2.2.2.2.2.2
  obtain ⟨bC, bL, bG, -⟩ := hw.1.1
  have hx := kx_live
  have hx12 := kx12_live
  refine kwL_stretch_0 hC hE ?_
  simp only [kbL_stretch_0, mL_stretch, kblk, kstp, kent, kpad, kget, kst1, kst2, kc2, cond_false, cond_true, kfv, kfit, kOkf, kputv, kputD, kputG, kcpy, kcat, kRR, kNN, true_and, and_true, if_true, if_false, if_pos, Nat.reduceAdd, Nat.reduceEqDiff, Nat.reduceLeDiff, Nat.reduceLT, reduceIte, Prod.mk.injEq, eq_self, false_and, and_false, reduceCtorEq, Nat.reduceSub, List.reverse_cons, List.reverse_nil, List.nil_append, List.cons_append, Option.toList_some, Option.toList_none, not_true_eq_false, not_false_eq_true]
  refine KW_callVX hC hCX (by decide +kernel) kl8_7 (by decide) ((s_stretch hr n)) rfl rfl (Nat.le_of_ble_eq_true rfl) rfl hx (by simp [kOkL, kOk, hx, hx12]) (by simp [kOkS, kOk, hx, hx12]) (Nat.le_of_ble_eq_true rfl) (Nat.le_of_ble_eq_true rfl) (Nat.le_of_ble_eq_true rfl) ?_ ?_
  · rintro v M' ⟨rfl, c1, c2, hp⟩
    have re : rStretch σ n = (0, tZ σ 38 0, tset σ 38 0 n) := by unfold rStretch; rw [if_pos c1, if_pos c2]
    obtain ⟨D1, rfl, hr1, ho1⟩ := hp
    refine kwL_stretch_7 hC hE ?_
    simp only [kbL_stretch_7, mL_stretch, kblk, kstp, kent, kpad, kget, kst1, kst2, kc2, cond_false, cond_true, kfv, kfit, kOkf, kputv, kputD, kputG, kcpy, kcat, kRR, kNN, true_and, and_true, if_true, if_false, if_pos, Nat.reduceAdd, Nat.reduceEqDiff, Nat.reduceLeDiff, Nat.reduceLT, reduceIte, Prod.mk.injEq, eq_self, false_and, and_false, reduceCtorEq, Nat.reduceSub, List.reverse_cons, List.reverse_nil, List.nil_append, List.cons_append, Option.toList_some, Option.toList_none, not_true_eq_false, not_false_eq_true, hx12, cl0]
    refine ⟨vp_in_nI (show 0 < 1 by decide) (by decide), ?_⟩
    refine KW_blk hC hE [(.iconst 0, 1, (0, 0, 0), 0, 0), (.ireturn, 1, (0, 0, 0), 0, 0)] _ _ _ _ _ _ (by decide +kernel) ?_
    simp only [kblk, kstp, kent, kpad, kget, kst1, kst2, kc2, cond_false, cond_true, kfv, kfit, kOkf, kputv, kputD, kputG, kcpy, kcat, kRR, kNN, true_and, and_true, if_true, if_false, if_pos, Nat.reduceAdd, Nat.reduceEqDiff, Nat.reduceLeDiff, Nat.reduceLT, reduceIte, Prod.mk.injEq, eq_self, false_and, and_false, reduceCtorEq, Nat.reduceSub, List.reverse_cons, List.reverse_nil, List.nil_append, List.cons_append, Option.toList_some, Option.toList_none, not_true_eq_false, not_false_eq_true, kblk, kstp, mL_stretch]
    exact ⟨⟨by rw [re], hOut.ret hr1 ho1 re⟩, trivial, by decide, by decide⟩
  · rintro E M' ⟨⟨rfl, c1⟩ | ⟨rfl, c1, c2⟩, rfl⟩
    · have re : rStretch σ n = (1, 0, σ) := by unfold rStretch; rw [if_neg c1]
      exact KThw_catch hC hCX hE hT (a := 3) (h := 12) (n := 1) (v := 1) (by decide +kernel) (by decide) (Or.inl ⟨3, rfl, by decide +kernel, by decide +kernel, by decide +kernel⟩) (by decide) ⟨⟨by rw [re], hOut.thr hr re (by decide)⟩, trivial, by decide, by decide⟩
    · have re : rStretch σ n = (2, 0, σ) := by unfold rStretch; rw [if_pos c1, if_neg c2]
      exact KThw_catch hC hCX hE hT (a := 3) (h := 15) (n := 2) (v := 2) (by decide +kernel) (by decide) (Or.inl ⟨3, rfl, by decide +kernel, by decide +kernel, by decide +kernel⟩) (by decide) ⟨⟨by rw [re], hOut.thr hr re (by decide)⟩, trivial, by decide, by decide⟩
set_option maxRecDepth 100000 in
theorem kcwL_addChair : Cond.codeWith mL_addChair.1 mL_addChair.2.1 mL_addChair.2.2.1 mL_addChair.2.2.2.1 [(0, 9, 12, 13), (0, 9, 15, 15)] ∈ kGW := kGW_in (by decide +kernel) (by decide +kernel)
theorem l_addChair (hr : kRep 0 D σ) {b0 h0 : Nat} (hw : kWf0 b0 h0 0 h0 σ) (hG : tG σ ≤ 90) (n : Int32) : SpW mL_addChair [(0, 9, 12, 13), (0, 9, 15, 15)] 2 12 [kR (some (5, 9, 0)), kI n, kR (some (12, 9, 0))] (km D G) (fun v M' => v = some (kI (rAddChair σ n).1) ∧ hOut D G (rAddChair σ n) M') := by
  refine SpW_of (by decide +kernel) rfl rfl (Nat.le_of_ble_eq_true rfl) ?_
  intro X hC hCX hE hT hL0
  have hs := hw.1
  have hbool := hw.2.2.2.2.2.2
  obtain ⟨bC, bL, bG, -⟩ := hw.1.1
  have hx := kx_live
  have hx12 := kx12_live
  refine kwL_addChair_0 hC hE ?_
  simp only [kbL_addChair_0, mL_addChair, kblk, kstp, kent, kpad, kget, kst1, kst2, kc2, cond_false, cond_true, kfv, kfit, kOkf, kputv, kputD, kputG, kcpy, kcat, kRR, kNN, true_and, and_true, if_true, if_false, if_pos, Nat.reduceAdd, Nat.reduceEqDiff, Nat.reduceLeDiff, Nat.reduceLT, reduceIte, Prod.mk.injEq, eq_self, false_and, and_false, reduceCtorEq, Nat.reduceSub, List.reverse_cons, List.reverse_nil, List.nil_append, List.cons_append, Option.toList_some, Option.toList_none, not_true_eq_false, not_false_eq_true]
  refine KW_callVX hC hCX (by decide +kernel) kl8_17 (by decide) ((s_addChair hr hs n)) rfl rfl (Nat.le_of_ble_eq_true rfl) rfl hx (by simp [kOkL, kOk, hx, hx12]) (by simp [kOkS, kOk, hx, hx12]) (Nat.le_of_ble_eq_true rfl) (Nat.le_of_ble_eq_true rfl) (Nat.le_of_ble_eq_true rfl) ?_ ?_
  · rintro v M' ⟨rfl, c1, c2, hp⟩
    have re : rAddChair σ n = (0, nI (tC σ), mkChair σ n) := by unfold rAddChair; rw [if_pos c1, if_pos c2]
    obtain ⟨D1, rfl, hr1, ho1⟩ := hp
    refine kwL_addChair_7 hC hE ?_
    simp only [kbL_addChair_7, mL_addChair, kblk, kstp, kent, kpad, kget, kst1, kst2, kc2, cond_false, cond_true, kfv, kfit, kOkf, kputv, kputD, kputG, kcpy, kcat, kRR, kNN, true_and, and_true, if_true, if_false, if_pos, Nat.reduceAdd, Nat.reduceEqDiff, Nat.reduceLeDiff, Nat.reduceLT, reduceIte, Prod.mk.injEq, eq_self, false_and, and_false, reduceCtorEq, Nat.reduceSub, List.reverse_cons, List.reverse_nil, List.nil_append, List.cons_append, Option.toList_some, Option.toList_none, not_true_eq_false, not_false_eq_true, hx12, cl0]
    refine ⟨vp_in_nI (show 0 < 1 by decide) (by decide), ?_⟩
    refine KW_blk hC hE [(.iconst 0, 1, (0, 0, 0), 0, 0), (.ireturn, 1, (0, 0, 0), 0, 0)] _ _ _ _ _ _ (by decide +kernel) ?_
    simp only [kblk, kstp, kent, kpad, kget, kst1, kst2, kc2, cond_false, cond_true, kfv, kfit, kOkf, kputv, kputD, kputG, kcpy, kcat, kRR, kNN, true_and, and_true, if_true, if_false, if_pos, Nat.reduceAdd, Nat.reduceEqDiff, Nat.reduceLeDiff, Nat.reduceLT, reduceIte, Prod.mk.injEq, eq_self, false_and, and_false, reduceCtorEq, Nat.reduceSub, List.reverse_cons, List.reverse_nil, List.nil_append, List.cons_append, Option.toList_some, Option.toList_none, not_true_eq_false, not_false_eq_true, kblk, kstp, mL_addChair]
    exact ⟨⟨by rw [re], hOut.ret hr1 ho1 re⟩, trivial, by decide, by decide⟩
  · rintro E M' ⟨⟨rfl, c1⟩ | ⟨rfl, c1, c2⟩, rfl⟩
    · have re : rAddChair σ n = (1, 0, σ) := by unfold rAddChair; rw [if_neg c1]
      exact KThw_catch hC hCX hE hT (a := 3) (h := 12) (n := 1) (v := 1) (by decide +kernel) (by decide) (Or.inl ⟨3, rfl, by decide +kernel, by decide +kernel, by decide +kernel⟩) (by decide) ⟨⟨by rw [re], hOut.thr hr re (by decide)⟩, trivial, by decide, by decide⟩
    · have re : rAddChair σ n = (2, 0, σ) := by unfold rAddChair; rw [if_pos c1, if_neg c2]
      exact KThw_catch hC hCX hE hT (a := 3) (h := 15) (n := 2) (v := 2) (by decide +kernel) (by decide) (Or.inl ⟨3, rfl, by decide +kernel, by decide +kernel, by decide +kernel⟩) (by decide) ⟨⟨by rw [re], hOut.thr hr re (by decide)⟩, trivial, by decide, by decide⟩
set_option maxRecDepth 100000 in
theorem kcwL_want : Cond.codeWith mL_want.1 mL_want.2.1 mL_want.2.2.1 mL_want.2.2.2.1 [(0, 9, 12, 13)] ∈ kGW := kGW_in (by decide +kernel) (by decide +kernel)
theorem l_want (hr : kRep 0 D σ) {b0 h0 : Nat} (hw : kWf0 b0 h0 0 h0 σ) (hG : tG σ ≤ 90) (n : Int32) : SpW mL_want [(0, 9, 12, 13)] 1 6 [kR (some (5, 9, 0)), kI n, kR (some (12, 9, 0))] (km D G) (fun v M' => v = some (kI (rWant σ n).1) ∧ hOut D G (rWant σ n) M') := by
  refine SpW_of (by decide +kernel) rfl rfl (Nat.le_of_ble_eq_true rfl) ?_
  intro X hC hCX hE hT hL0
  have hs := hw.1
  have hbool := hw.2.2.2.2.2.2
  obtain ⟨bC, bL, bG, -⟩ := hw.1.1
  have hx := kx_live
  have hx12 := kx12_live
  refine kwL_want_0 hC hE ?_
  simp only [kbL_want_0, mL_want, kblk, kstp, kent, kpad, kget, kst1, kst2, kc2, cond_false, cond_true, kfv, kfit, kOkf, kputv, kputD, kputG, kcpy, kcat, kRR, kNN, true_and, and_true, if_true, if_false, if_pos, Nat.reduceAdd, Nat.reduceEqDiff, Nat.reduceLeDiff, Nat.reduceLT, reduceIte, Prod.mk.injEq, eq_self, false_and, and_false, reduceCtorEq, Nat.reduceSub, List.reverse_cons, List.reverse_nil, List.nil_append, List.cons_append, Option.toList_some, Option.toList_none, not_true_eq_false, not_false_eq_true]
  refine KW_callVX hC hCX (by decide +kernel) kl8_20 (by decide) ((s_want hr n)) rfl rfl (Nat.le_of_ble_eq_true rfl) rfl hx (by simp [kOkL, kOk, hx, hx12]) (by simp [kOkS, kOk, hx, hx12]) (Nat.le_of_ble_eq_true rfl) (Nat.le_of_ble_eq_true rfl) (Nat.le_of_ble_eq_true rfl) ?_ ?_
  · rintro v M' ⟨rfl, c1, hp⟩
    have re : rWant σ n = (0, tZ σ 39 0, tset σ 39 0 n) := by unfold rWant; rw [if_pos c1]
    obtain ⟨D1, rfl, hr1, ho1⟩ := hp
    refine kwL_want_7 hC hE ?_
    simp only [kbL_want_7, mL_want, kblk, kstp, kent, kpad, kget, kst1, kst2, kc2, cond_false, cond_true, kfv, kfit, kOkf, kputv, kputD, kputG, kcpy, kcat, kRR, kNN, true_and, and_true, if_true, if_false, if_pos, Nat.reduceAdd, Nat.reduceEqDiff, Nat.reduceLeDiff, Nat.reduceLT, reduceIte, Prod.mk.injEq, eq_self, false_and, and_false, reduceCtorEq, Nat.reduceSub, List.reverse_cons, List.reverse_nil, List.nil_append, List.cons_append, Option.toList_some, Option.toList_none, not_true_eq_false, not_false_eq_true, hx12, cl0]
    refine ⟨vp_in_nI (show 0 < 1 by decide) (by decide), ?_⟩
    refine KW_blk hC hE [(.iconst 0, 1, (0, 0, 0), 0, 0), (.ireturn, 1, (0, 0, 0), 0, 0)] _ _ _ _ _ _ (by decide +kernel) ?_
    simp only [kblk, kstp, kent, kpad, kget, kst1, kst2, kc2, cond_false, cond_true, kfv, kfit, kOkf, kputv, kputD, kputG, kcpy, kcat, kRR, kNN, true_and, and_true, if_true, if_false, if_pos, Nat.reduceAdd, Nat.reduceEqDiff, Nat.reduceLeDiff, Nat.reduceLT, reduceIte, Prod.mk.injEq, eq_self, false_and, and_false, reduceCtorEq, Nat.reduceSub, List.reverse_cons, List.reverse_nil, List.nil_append, List.cons_append, Option.toList_some, Option.toList_none, not_true_eq_false, not_false_eq_true, kblk, kstp, mL_want]
    exact ⟨⟨by rw [re], hOut.ret hr1 ho1 re⟩, trivial, by decide, by decide⟩
  · rintro E M' ⟨⟨rfl, c1⟩, rfl⟩
    have re : rWant σ n = (1, 0, σ) := by unfold rWant; rw [if_neg c1]
    exact KThw_catch hC hCX hE hT (a := 3) (h := 12) (n := 1) (v := 1) (by decide +kernel) (by decide) (Or.inl ⟨3, rfl, by decide +kernel, by decide +kernel, by decide +kernel⟩) (by decide) ⟨⟨by rw [re], hOut.thr hr re (by decide)⟩, trivial, by decide, by decide⟩
set_option maxRecDepth 100000 in
theorem kcwL_addLane : Cond.codeWith mL_addLane.1 mL_addLane.2.1 mL_addLane.2.2.1 mL_addLane.2.2.2.1 [(0, 8, 11, 15)] ∈ kGW := kGW_in (by decide +kernel) (by decide +kernel)
theorem l_addLane (hr : kRep 0 D σ) {b0 h0 : Nat} (hw : kWf0 b0 h0 0 h0 σ) (hG : tG σ ≤ 90)  : SpW mL_addLane [(0, 8, 11, 15)] 1 6 [kR (some (5, 9, 0)), kR (some (12, 9, 0))] (km D G) (fun v M' => v = some (kI (rAddLane σ).1) ∧ hOut D G (rAddLane σ) M') := by
  refine SpW_of (by decide +kernel) rfl rfl (Nat.le_of_ble_eq_true rfl) ?_
  intro X hC hCX hE hT hL0
  have hs := hw.1
  have hbool := hw.2.2.2.2.2.2
  obtain ⟨bC, bL, bG, -⟩ := hw.1.1
  have hx := kx_live
  have hx12 := kx12_live
  refine kwL_addLane_0 hC hE ?_
  simp only [kbL_addLane_0, mL_addLane, kblk, kstp, kent, kpad, kget, kst1, kst2, kc2, cond_false, cond_true, kfv, kfit, kOkf, kputv, kputD, kputG, kcpy, kcat, kRR, kNN, true_and, and_true, if_true, if_false, if_pos, Nat.reduceAdd, Nat.reduceEqDiff, Nat.reduceLeDiff, Nat.reduceLT, reduceIte, Prod.mk.injEq, eq_self, false_and, and_false, reduceCtorEq, Nat.reduceSub, List.reverse_cons, List.reverse_nil, List.nil_append, List.cons_append, Option.toList_some, Option.toList_none, not_true_eq_false, not_false_eq_true]
  refine KW_callVX hC hCX (by decide +kernel) kl8_23 (by decide) ((s_addLane hr)) rfl rfl (Nat.le_of_ble_eq_true rfl) rfl hx (by simp [kOkL, kOk, hx, hx12]) (by simp [kOkS, kOk, hx, hx12]) (Nat.le_of_ble_eq_true rfl) (Nat.le_of_ble_eq_true rfl) (Nat.le_of_ble_eq_true rfl) ?_ ?_
  · rintro v M' ⟨rfl, c1, hp⟩
    have re : rAddLane σ  = (0, nI (tL σ), mkLane σ) := by unfold rAddLane; rw [if_pos c1]
    obtain ⟨D1, rfl, hr1, ho1⟩ := hp
    refine kwL_addLane_6 hC hE ?_
    simp only [kbL_addLane_6, mL_addLane, kblk, kstp, kent, kpad, kget, kst1, kst2, kc2, cond_false, cond_true, kfv, kfit, kOkf, kputv, kputD, kputG, kcpy, kcat, kRR, kNN, true_and, and_true, if_true, if_false, if_pos, Nat.reduceAdd, Nat.reduceEqDiff, Nat.reduceLeDiff, Nat.reduceLT, reduceIte, Prod.mk.injEq, eq_self, false_and, and_false, reduceCtorEq, Nat.reduceSub, List.reverse_cons, List.reverse_nil, List.nil_append, List.cons_append, Option.toList_some, Option.toList_none, not_true_eq_false, not_false_eq_true, hx12, cl0]
    refine ⟨vp_in_nI (show 0 < 1 by decide) (by decide), ?_⟩
    refine KW_blk hC hE [(.iconst 0, 1, (0, 0, 0), 0, 0), (.ireturn, 1, (0, 0, 0), 0, 0)] _ _ _ _ _ _ (by decide +kernel) ?_
    simp only [kblk, kstp, kent, kpad, kget, kst1, kst2, kc2, cond_false, cond_true, kfv, kfit, kOkf, kputv, kputD, kputG, kcpy, kcat, kRR, kNN, true_and, and_true, if_true, if_false, if_pos, Nat.reduceAdd, Nat.reduceEqDiff, Nat.reduceLeDiff, Nat.reduceLT, reduceIte, Prod.mk.injEq, eq_self, false_and, and_false, reduceCtorEq, Nat.reduceSub, List.reverse_cons, List.reverse_nil, List.nil_append, List.cons_append, Option.toList_some, Option.toList_none, not_true_eq_false, not_false_eq_true, kblk, kstp, mL_addLane]
    exact ⟨⟨by rw [re], hOut.ret hr1 ho1 re⟩, trivial, by decide, by decide⟩
  · rintro E M' ⟨⟨rfl, c1⟩, rfl⟩
    have re : rAddLane σ  = (1, 0, σ) := by unfold rAddLane; rw [if_neg c1]
    exact KThw_catch hC hCX hE hT (a := 2) (h := 11) (n := 1) (v := 1) (by decide +kernel) (by decide) (Or.inl ⟨2, rfl, by decide +kernel, by decide +kernel, by decide +kernel⟩) (by decide) ⟨⟨by rw [re], hOut.thr hr re (by decide)⟩, trivial, by decide, by decide⟩
set_option maxRecDepth 100000 in
theorem kcwL_shut : Cond.codeWith mL_shut.1 mL_shut.2.1 mL_shut.2.2.1 mL_shut.2.2.2.1 [(0, 17, 20, 31)] ∈ kGW := kGW_in (by decide +kernel) (by decide +kernel)
theorem l_shut (hr : kRep 0 D σ) {b0 h0 : Nat} (hw : kWf0 b0 h0 0 h0 σ) (hG : tG σ ≤ 90) (c b : Int32) (hb01 : b = 0 ∨ b = 1) : SpW mL_shut [(0, 17, 20, 31)] 1 6 [kR (some (5, 9, 0)), kI c, kI b, kR (some (12, 9, 0))] (km D G) (fun v M' => v = some (kI (rShut σ c b).1) ∧ hOut D G (rShut σ c b) M') := by
  refine SpW_of (by decide +kernel) rfl rfl (Nat.le_of_ble_eq_true rfl) ?_
  intro X hC hCX hE hT hL0
  have hs := hw.1
  have hbool := hw.2.2.2.2.2.2
  obtain ⟨bC, bL, bG, -⟩ := hw.1.1
  have hx := kx_live
  have hx12 := kx12_live
  refine kwL_shut_0 hC hE ?_
  simp only [kbL_shut_0, mL_shut, kblk, kstp, kent, kpad, kget, kst1, kst2, kc2, cond_false, cond_true, kfv, kfit, kOkf, kputv, kputD, kputG, kcpy, kcat, kRR, kNN, true_and, and_true, if_true, if_false, if_pos, Nat.reduceAdd, Nat.reduceEqDiff, Nat.reduceLeDiff, Nat.reduceLT, reduceIte, Prod.mk.injEq, eq_self, false_and, and_false, reduceCtorEq, Nat.reduceSub, List.reverse_cons, List.reverse_nil, List.nil_append, List.cons_append, Option.toList_some, Option.toList_none, not_true_eq_false, not_false_eq_true]
  refine KW_callVX hC hCX (by decide +kernel) kl8_27 (by decide) ((s_shut hr hbool c b hb01)) rfl rfl (Nat.le_of_ble_eq_true rfl) rfl hx (by simp [kOkL, kOk, hx, hx12]) (by simp [kOkS, kOk, hx, hx12]) (Nat.le_of_ble_eq_true rfl) (Nat.le_of_ble_eq_true rfl) (Nat.le_of_ble_eq_true rfl) ?_ ?_
  · rintro v M' ⟨l, hl, rfl, rfl, hp⟩
    have re : rShut σ (nI l) b = (0, tZ σ 21 l, tset σ 21 l b) := by unfold rShut; rw [if_pos (rng hl (by omega)), nI_clamp (by omega)]
    obtain ⟨D1, rfl, hr1, ho1⟩ := hp
    have at16 : ∀ y : Int64, y = (tZ σ 21 l).toInt64 → KW X 16 [some (kR (some (5, 9, 0))), some (kI (nI l)), some (kI b), some (kR (some (12, 9, 0))), none] [kL y, kI 0, kR (some (12, 9, 0))] (km D1 G) 1 6 := by
      intro y hy
      refine kwL_shut_16 hC hE ?_
      simp only [kbL_shut_16, mL_shut, kblk, kstp, kent, kpad, kget, kst1, kst2, kc2, cond_false, cond_true, kfv, kfit, kOkf, kputv, kputD, kputG, kcpy, kcat, kRR, kNN, true_and, and_true, if_true, if_false, if_pos, Nat.reduceAdd, Nat.reduceEqDiff, Nat.reduceLeDiff, Nat.reduceLT, reduceIte, Prod.mk.injEq, eq_self, false_and, and_false, reduceCtorEq, Nat.reduceSub, List.reverse_cons, List.reverse_nil, List.nil_append, List.cons_append, Option.toList_some, Option.toList_none, not_true_eq_false, not_false_eq_true, hx12, cl0]
      refine ⟨vp_in_nI (show 0 < 1 by decide) (by decide), ?_⟩
      refine KW_blk hC hE [(.iconst 0, 1, (0, 0, 0), 0, 0), (.ireturn, 1, (0, 0, 0), 0, 0)] _ _ _ _ _ _ (by decide +kernel) ?_
      simp only [kblk, kstp, kent, kpad, kget, kst1, kst2, kc2, cond_false, cond_true, kfv, kfit, kOkf, kputv, kputD, kputG, kcpy, kcat, kRR, kNN, true_and, and_true, if_true, if_false, if_pos, Nat.reduceAdd, Nat.reduceEqDiff, Nat.reduceLeDiff, Nat.reduceLT, reduceIte, Prod.mk.injEq, eq_self, false_and, and_false, reduceCtorEq, Nat.reduceSub, List.reverse_cons, List.reverse_nil, List.nil_append, List.cons_append, Option.toList_some, Option.toList_none, not_true_eq_false, not_false_eq_true, kblk, kstp, mL_shut]
      exact ⟨⟨by rw [re], by rw [hy]; exact hOut.ret hr1 ho1 re⟩, trivial, by decide, by decide⟩
    refine kwL_shut_8 hC hE ?_
    simp only [kbL_shut_8, mL_shut, kblk, kstp, kent, kpad, kget, kst1, kst2, kc2, cond_false, cond_true, kfv, kfit, kOkf, kputv, kputD, kputG, kcpy, kcat, kRR, kNN, true_and, and_true, if_true, if_false, if_pos, Nat.reduceAdd, Nat.reduceEqDiff, Nat.reduceLeDiff, Nat.reduceLT, reduceIte, Prod.mk.injEq, eq_self, false_and, and_false, reduceCtorEq, Nat.reduceSub, List.reverse_cons, List.reverse_nil, List.nil_append, List.cons_append, Option.toList_some, Option.toList_none, not_true_eq_false, not_false_eq_true]
    refine ⟨fun z => ?_, fun z => ?_⟩
    · refine kwL_shut_15 hC hE ?_
      simp only [kbL_shut_15, mL_shut, kblk, kstp, kent, kpad, kget, kst1, kst2, kc2, cond_false, cond_true, kfv, kfit, kOkf, kputv, kputD, kputG, kcpy, kcat, kRR, kNN, true_and, and_true, if_true, if_false, if_pos, Nat.reduceAdd, Nat.reduceEqDiff, Nat.reduceLeDiff, Nat.reduceLT, reduceIte, Prod.mk.injEq, eq_self, false_and, and_false, reduceCtorEq, Nat.reduceSub, List.reverse_cons, List.reverse_nil, List.nil_append, List.cons_append, Option.toList_some, Option.toList_none, not_true_eq_false, not_false_eq_true]
      exact at16 0 (by rw [z]; rfl)
    · refine kwL_shut_11 hC hE ?_
      simp only [kbL_shut_11, mL_shut, kblk, kstp, kent, kpad, kget, kst1, kst2, kc2, cond_false, cond_true, kfv, kfit, kOkf, kputv, kputD, kputG, kcpy, kcat, kRR, kNN, true_and, and_true, if_true, if_false, if_pos, Nat.reduceAdd, Nat.reduceEqDiff, Nat.reduceLeDiff, Nat.reduceLT, reduceIte, Prod.mk.injEq, eq_self, false_and, and_false, reduceCtorEq, Nat.reduceSub, List.reverse_cons, List.reverse_nil, List.nil_append, List.cons_append, Option.toList_some, Option.toList_none, not_true_eq_false, not_false_eq_true]
      have z1 : tZ σ 21 l = 1 := (hbool l hl).resolve_left z
      exact at16 1 (by rw [z1]; rfl)
  · rintro E M' ⟨⟨rfl, c1⟩, rfl⟩
    have re : rShut σ c b = (1, 0, σ) := by unfold rShut; rw [if_neg c1]
    exact KThw_catch hC hCX hE hT (a := 4) (h := 20) (n := 1) (v := 1) (by decide +kernel) (by decide) (Or.inr ⟨by decide +kernel, by decide +kernel, by decide +kernel⟩) (by decide) ⟨⟨by rw [re], hOut.thr hr re (by decide)⟩, trivial, by decide, by decide⟩
set_option maxRecDepth 100000 in
theorem kcwL_setWind : Cond.codeWith mL_setWind.1 mL_setWind.2.1 mL_setWind.2.2.1 mL_setWind.2.2.2.1 [(0, 10, 13, 31), (0, 10, 17, 13)] ∈ kGW := kGW_in (by decide +kernel) (by decide +kernel)
theorem l_setWind (hr : kRep 0 D σ) {b0 h0 : Nat} (hw : kWf0 b0 h0 0 h0 σ) (hG : tG σ ≤ 90) (c n : Int32) : SpW mL_setWind [(0, 10, 13, 31), (0, 10, 17, 13)] 2 12 [kR (some (5, 9, 0)), kI c, kI n, kR (some (12, 9, 0))] (km D G) (fun v M' => v = some (kI (rSetWind σ c n).1) ∧ hOut D G (rSetWind σ c n) M') := by
  refine SpW_of (by decide +kernel) rfl rfl (Nat.le_of_ble_eq_true rfl) ?_
  intro X hC hCX hE hT hL0
  have hs := hw.1
  have hbool := hw.2.2.2.2.2.2
  obtain ⟨bC, bL, bG, -⟩ := hw.1.1
  have hx := kx_live
  have hx12 := kx12_live
  refine kwL_setWind_0 hC hE ?_
  simp only [kbL_setWind_0, mL_setWind, kblk, kstp, kent, kpad, kget, kst1, kst2, kc2, cond_false, cond_true, kfv, kfit, kOkf, kputv, kputD, kputG, kcpy, kcat, kRR, kNN, true_and, and_true, if_true, if_false, if_pos, Nat.reduceAdd, Nat.reduceEqDiff, Nat.reduceLeDiff, Nat.reduceLT, reduceIte, Prod.mk.injEq, eq_self, false_and, and_false, reduceCtorEq, Nat.reduceSub, List.reverse_cons, List.reverse_nil, List.nil_append, List.cons_append, Option.toList_some, Option.toList_none, not_true_eq_false, not_false_eq_true]
  refine KW_callVX hC hCX (by decide +kernel) kl8_33 (by decide) ((s_setWind hr c n)) rfl rfl (Nat.le_of_ble_eq_true rfl) rfl hx (by simp [kOkL, kOk, hx, hx12]) (by simp [kOkS, kOk, hx, hx12]) (Nat.le_of_ble_eq_true rfl) (Nat.le_of_ble_eq_true rfl) (Nat.le_of_ble_eq_true rfl) ?_ ?_
  · rintro v M' ⟨⟨i, hi, rfl, rfl, hp⟩, c2⟩
    have re : rSetWind σ (nI i) n = (0, tZ σ 50 i, tset σ 50 i n) := by unfold rSetWind; rw [if_pos (show 0 ≤ nI i ∧ nI i < 24 from rng (n := 24) hi (by decide)), if_pos c2, nI_clamp (by omega)]
    obtain ⟨D1, rfl, hr1, ho1⟩ := hp
    refine kwL_setWind_8 hC hE ?_
    simp only [kbL_setWind_8, mL_setWind, kblk, kstp, kent, kpad, kget, kst1, kst2, kc2, cond_false, cond_true, kfv, kfit, kOkf, kputv, kputD, kputG, kcpy, kcat, kRR, kNN, true_and, and_true, if_true, if_false, if_pos, Nat.reduceAdd, Nat.reduceEqDiff, Nat.reduceLeDiff, Nat.reduceLT, reduceIte, Prod.mk.injEq, eq_self, false_and, and_false, reduceCtorEq, Nat.reduceSub, List.reverse_cons, List.reverse_nil, List.nil_append, List.cons_append, Option.toList_some, Option.toList_none, not_true_eq_false, not_false_eq_true, hx12, cl0]
    refine ⟨vp_in_nI (show 0 < 1 by decide) (by decide), ?_⟩
    refine KW_blk hC hE [(.iconst 0, 1, (0, 0, 0), 0, 0), (.ireturn, 1, (0, 0, 0), 0, 0)] _ _ _ _ _ _ (by decide +kernel) ?_
    simp only [kblk, kstp, kent, kpad, kget, kst1, kst2, kc2, cond_false, cond_true, kfv, kfit, kOkf, kputv, kputD, kputG, kcpy, kcat, kRR, kNN, true_and, and_true, if_true, if_false, if_pos, Nat.reduceAdd, Nat.reduceEqDiff, Nat.reduceLeDiff, Nat.reduceLT, reduceIte, Prod.mk.injEq, eq_self, false_and, and_false, reduceCtorEq, Nat.reduceSub, List.reverse_cons, List.reverse_nil, List.nil_append, List.cons_append, Option.toList_some, Option.toList_none, not_true_eq_false, not_false_eq_true, kblk, kstp, mL_setWind]
    exact ⟨⟨by rw [re], hOut.ret hr1 ho1 re⟩, trivial, by decide, by decide⟩
  · rintro E M' ⟨⟨rfl, c1⟩ | ⟨rfl, c1, c2⟩, rfl⟩
    · have re : rSetWind σ c n = (1, 0, σ) := by unfold rSetWind; rw [if_neg c1]
      exact KThw_catch hC hCX hE hT (a := 4) (h := 13) (n := 1) (v := 1) (by decide +kernel) (by decide) (Or.inr ⟨by decide +kernel, by decide +kernel, by decide +kernel⟩) (by decide) ⟨⟨by rw [re], hOut.thr hr re (by decide)⟩, trivial, by decide, by decide⟩
    · have re : rSetWind σ c n = (2, 0, σ) := by unfold rSetWind; rw [if_pos c1, if_neg c2]
      exact KThw_catch hC hCX hE hT (a := 4) (h := 17) (n := 2) (v := 2) (by decide +kernel) (by decide) (Or.inr ⟨by decide +kernel, by decide +kernel, by decide +kernel⟩) (by decide) ⟨⟨by rw [re], hOut.thr hr re (by decide)⟩, trivial, by decide, by decide⟩
set_option maxRecDepth 100000 in
theorem kcwL_join : Cond.codeWith mL_join.1 mL_join.2.1 mL_join.2.2.1 mL_join.2.2.2.1 [(0, 12, 15, 31), (0, 12, 19, 13), (0, 12, 23, 15)] ∈ kGW := kGW_in (by decide +kernel) (by decide +kernel)
theorem l_join (hr : kRep 0 D σ) {b0 h0 : Nat} (hw : kWf0 b0 h0 0 h0 σ) (hG : tG σ ≤ 90) (c a b : Int32) : SpW mL_join [(0, 12, 15, 31), (0, 12, 19, 13), (0, 12, 23, 15)] 3 18 [kR (some (5, 9, 0)), kI c, kI a, kI b, kR (some (12, 9, 0))] (km D G) (fun v M' => v = some (kI (rJoin σ c a b).1) ∧ hOut D G (rJoin σ c a b) M') := by
  refine SpW_of (by decide +kernel) rfl rfl (Nat.le_of_ble_eq_true rfl) ?_
  intro X hC hCX hE hT hL0
  have hs := hw.1
  have hbool := hw.2.2.2.2.2.2
  obtain ⟨bC, bL, bG, -⟩ := hw.1.1
  have hx := kx_live
  have hx12 := kx12_live
  refine kwL_join_0 hC hE ?_
  simp only [kbL_join_0, mL_join, kblk, kstp, kent, kpad, kget, kst1, kst2, kc2, cond_false, cond_true, kfv, kfit, kOkf, kputv, kputD, kputG, kcpy, kcat, kRR, kNN, true_and, and_true, if_true, if_false, if_pos, Nat.reduceAdd, Nat.reduceEqDiff, Nat.reduceLeDiff, Nat.reduceLT, reduceIte, Prod.mk.injEq, eq_self, false_and, and_false, reduceCtorEq, Nat.reduceSub, List.reverse_cons, List.reverse_nil, List.nil_append, List.cons_append, Option.toList_some, Option.toList_none, not_true_eq_false, not_false_eq_true]
  refine KW_callVX hC hCX (by decide +kernel) kl8_37 (by decide) ((s_join hr hs c a b)) rfl rfl (Nat.le_of_ble_eq_true rfl) rfl hx (by simp [kOkL, kOk, hx, hx12]) (by simp [kOkS, kOk, hx, hx12]) (Nat.le_of_ble_eq_true rfl) (Nat.le_of_ble_eq_true rfl) (Nat.le_of_ble_eq_true rfl) ?_ ?_
  · rintro v M' ⟨l, hl, rfl, c1, c2, c3, c4, rfl, hp⟩
    have re : rJoin σ (nI l) a b = (0, nI (tG σ), mkGroup σ l a b) := by unfold rJoin; rw [if_pos (rng hl (by omega)), if_pos ⟨c1, c2⟩, nI_clamp (by omega), if_pos ⟨c3, c4⟩]
    obtain ⟨D1, rfl, hr1, ho1⟩ := hp
    refine kwL_join_10 hC hE ?_
    simp only [kbL_join_10, mL_join, kblk, kstp, kent, kpad, kget, kst1, kst2, kc2, cond_false, cond_true, kfv, kfit, kOkf, kputv, kputD, kputG, kcpy, kcat, kRR, kNN, true_and, and_true, if_true, if_false, if_pos, Nat.reduceAdd, Nat.reduceEqDiff, Nat.reduceLeDiff, Nat.reduceLT, reduceIte, Prod.mk.injEq, eq_self, false_and, and_false, reduceCtorEq, Nat.reduceSub, List.reverse_cons, List.reverse_nil, List.nil_append, List.cons_append, Option.toList_some, Option.toList_none, not_true_eq_false, not_false_eq_true, hx12, cl0]
    refine ⟨vp_in_nI (show 0 < 1 by decide) (by decide), ?_⟩
    refine KW_blk hC hE [(.iconst 0, 1, (0, 0, 0), 0, 0), (.ireturn, 1, (0, 0, 0), 0, 0)] _ _ _ _ _ _ (by decide +kernel) ?_
    simp only [kblk, kstp, kent, kpad, kget, kst1, kst2, kc2, cond_false, cond_true, kfv, kfit, kOkf, kputv, kputD, kputG, kcpy, kcat, kRR, kNN, true_and, and_true, if_true, if_false, if_pos, Nat.reduceAdd, Nat.reduceEqDiff, Nat.reduceLeDiff, Nat.reduceLT, reduceIte, Prod.mk.injEq, eq_self, false_and, and_false, reduceCtorEq, Nat.reduceSub, List.reverse_cons, List.reverse_nil, List.nil_append, List.cons_append, Option.toList_some, Option.toList_none, not_true_eq_false, not_false_eq_true, kblk, kstp, mL_join]
    exact ⟨⟨by rw [re], hOut.ret hr1 ho1 re⟩, trivial, by decide, by decide⟩
  · rintro E M' ⟨⟨rfl, c1⟩ | ⟨l, hl, rfl, ⟨rfl, c2⟩ | ⟨rfl, c2, c3⟩⟩, rfl⟩
    · have re : rJoin σ c a b = (1, 0, σ) := by unfold rJoin; rw [if_neg c1]
      exact KThw_catch hC hCX hE hT (a := 5) (h := 15) (n := 1) (v := 1) (by decide +kernel) (by decide) (Or.inr ⟨by decide +kernel, by decide +kernel, by decide +kernel⟩) (by decide) ⟨⟨by rw [re], hOut.thr hr re (by decide)⟩, trivial, by decide, by decide⟩
    · have re : rJoin σ (nI l) a b = (2, 0, σ) := by unfold rJoin; rw [if_pos (rng hl (by omega)), if_neg c2]
      exact KThw_catch hC hCX hE hT (a := 5) (h := 19) (n := 2) (v := 2) (by decide +kernel) (by decide) (Or.inr ⟨by decide +kernel, by decide +kernel, by decide +kernel⟩) (by decide) ⟨⟨by rw [re], hOut.thr hr re (by decide)⟩, trivial, by decide, by decide⟩
    · have re : rJoin σ (nI l) a b = (3, 0, σ) := by unfold rJoin; rw [if_pos (rng hl (by omega)), if_pos c2, nI_clamp (by omega), if_neg c3]
      exact KThw_catch hC hCX hE hT (a := 5) (h := 23) (n := 3) (v := 3) (by decide +kernel) (by decide) (Or.inr ⟨by decide +kernel, by decide +kernel, by decide +kernel⟩) (by decide) ⟨⟨by rw [re], hOut.thr hr re (by decide)⟩, trivial, by decide, by decide⟩
set_option maxRecDepth 100000 in
theorem kcwL_change : Cond.codeWith mL_change.1 mL_change.2.1 mL_change.2.2.1 mL_change.2.2.2.1 [(0, 10, 13, 31), (0, 10, 17, 15)] ∈ kGW := kGW_in (by decide +kernel) (by decide +kernel)
theorem l_change (hr : kRep 0 D σ) {b0 h0 : Nat} (hw : kWf0 b0 h0 0 h0 σ) (hG : tG σ ≤ 90) (c n : Int32) : SpW mL_change [(0, 10, 13, 31), (0, 10, 17, 15)] 2 12 [kR (some (5, 9, 0)), kI c, kI n, kR (some (12, 9, 0))] (km D G) (fun v M' => v = some (kI (rChange σ c n).1) ∧ hOut D G (rChange σ c n) M') := by
  refine SpW_of (by decide +kernel) rfl rfl (Nat.le_of_ble_eq_true rfl) ?_
  intro X hC hCX hE hT hL0
  have hs := hw.1
  have hbool := hw.2.2.2.2.2.2
  obtain ⟨bC, bL, bG, -⟩ := hw.1.1
  have hx := kx_live
  have hx12 := kx12_live
  refine kwL_change_0 hC hE ?_
  simp only [kbL_change_0, mL_change, kblk, kstp, kent, kpad, kget, kst1, kst2, kc2, cond_false, cond_true, kfv, kfit, kOkf, kputv, kputD, kputG, kcpy, kcat, kRR, kNN, true_and, and_true, if_true, if_false, if_pos, Nat.reduceAdd, Nat.reduceEqDiff, Nat.reduceLeDiff, Nat.reduceLT, reduceIte, Prod.mk.injEq, eq_self, false_and, and_false, reduceCtorEq, Nat.reduceSub, List.reverse_cons, List.reverse_nil, List.nil_append, List.cons_append, Option.toList_some, Option.toList_none, not_true_eq_false, not_false_eq_true]
  refine KW_callVX hC hCX (by decide +kernel) kl8_41 (by decide) ((s_change hr hs c n)) rfl rfl (Nat.le_of_ble_eq_true rfl) rfl hx (by simp [kOkL, kOk, hx, hx12]) (by simp [kOkS, kOk, hx, hx12]) (Nat.le_of_ble_eq_true rfl) (Nat.le_of_ble_eq_true rfl) (Nat.le_of_ble_eq_true rfl) ?_ ?_
  · rintro v M' ⟨g, l, hg, hl, rfl, rfl, c1, c2, rfl, hp⟩
    have re : rChange σ (nI g) (nI l) = (0, nI (tQ (putT (takeOut σ g) g l) l).length - 1, putT (takeOut σ g) g l) := by unfold rChange; rw [if_pos ⟨rng hg (by omega), rng hl (by omega)⟩, nI_clamp (show g < 2 ^ 31 by omega), nI_clamp (show l < 2 ^ 31 by omega), if_pos ⟨c1, c2⟩]
    obtain ⟨D1, rfl, hr1, ho1⟩ := hp
    refine kwL_change_8 hC hE ?_
    simp only [kbL_change_8, mL_change, kblk, kstp, kent, kpad, kget, kst1, kst2, kc2, cond_false, cond_true, kfv, kfit, kOkf, kputv, kputD, kputG, kcpy, kcat, kRR, kNN, true_and, and_true, if_true, if_false, if_pos, Nat.reduceAdd, Nat.reduceEqDiff, Nat.reduceLeDiff, Nat.reduceLT, reduceIte, Prod.mk.injEq, eq_self, false_and, and_false, reduceCtorEq, Nat.reduceSub, List.reverse_cons, List.reverse_nil, List.nil_append, List.cons_append, Option.toList_some, Option.toList_none, not_true_eq_false, not_false_eq_true, hx12, cl0]
    refine ⟨vp_in_nI (show 0 < 1 by decide) (by decide), ?_⟩
    refine KW_blk hC hE [(.iconst 0, 1, (0, 0, 0), 0, 0), (.ireturn, 1, (0, 0, 0), 0, 0)] _ _ _ _ _ _ (by decide +kernel) ?_
    simp only [kblk, kstp, kent, kpad, kget, kst1, kst2, kc2, cond_false, cond_true, kfv, kfit, kOkf, kputv, kputD, kputG, kcpy, kcat, kRR, kNN, true_and, and_true, if_true, if_false, if_pos, Nat.reduceAdd, Nat.reduceEqDiff, Nat.reduceLeDiff, Nat.reduceLT, reduceIte, Prod.mk.injEq, eq_self, false_and, and_false, reduceCtorEq, Nat.reduceSub, List.reverse_cons, List.reverse_nil, List.nil_append, List.cons_append, Option.toList_some, Option.toList_none, not_true_eq_false, not_false_eq_true, kblk, kstp, mL_change]
    exact ⟨⟨by rw [re], hOut.ret hr1 ho1 re⟩, trivial, by decide, by decide⟩
  · rintro E M' ⟨⟨rfl, c1⟩ | ⟨rfl, g, l, hg, hl, rfl, rfl, c2⟩, rfl⟩
    · have re : rChange σ c n = (1, 0, σ) := by unfold rChange; rw [if_neg c1]
      exact KThw_catch hC hCX hE hT (a := 4) (h := 13) (n := 1) (v := 1) (by decide +kernel) (by decide) (Or.inr ⟨by decide +kernel, by decide +kernel, by decide +kernel⟩) (by decide) ⟨⟨by rw [re], hOut.thr hr re (by decide)⟩, trivial, by decide, by decide⟩
    · have re : rChange σ (nI g) (nI l) = (2, 0, σ) := by unfold rChange; rw [if_pos ⟨rng hg (by omega), rng hl (by omega)⟩, nI_clamp (show g < 2 ^ 31 by omega), nI_clamp (show l < 2 ^ 31 by omega), if_neg c2]
      exact KThw_catch hC hCX hE hT (a := 4) (h := 17) (n := 2) (v := 2) (by decide +kernel) (by decide) (Or.inr ⟨by decide +kernel, by decide +kernel, by decide +kernel⟩) (by decide) ⟨⟨by rw [re], hOut.thr hr re (by decide)⟩, trivial, by decide, by decide⟩
set_option maxRecDepth 100000 in
theorem kcwL_leave : Cond.codeWith mL_leave.1 mL_leave.2.1 mL_leave.2.2.1 mL_leave.2.2.2.1 [(0, 9, 12, 31), (0, 9, 15, 15)] ∈ kGW := kGW_in (by decide +kernel) (by decide +kernel)
theorem l_leave (hr : kRep 0 D σ) {b0 h0 : Nat} (hw : kWf0 b0 h0 0 h0 σ) (hG : tG σ ≤ 90) (c : Int32) : SpW mL_leave [(0, 9, 12, 31), (0, 9, 15, 15)] 2 12 [kR (some (5, 9, 0)), kI c, kR (some (12, 9, 0))] (km D G) (fun v M' => v = some (kI (rLeave σ c).1) ∧ hOut D G (rLeave σ c) M') := by
  refine SpW_of (by decide +kernel) rfl rfl (Nat.le_of_ble_eq_true rfl) ?_
  intro X hC hCX hE hT hL0
  have hs := hw.1
  have hbool := hw.2.2.2.2.2.2
  obtain ⟨bC, bL, bG, -⟩ := hw.1.1
  have hx := kx_live
  have hx12 := kx12_live
  refine kwL_leave_0 hC hE ?_
  simp only [kbL_leave_0, mL_leave, kblk, kstp, kent, kpad, kget, kst1, kst2, kc2, cond_false, cond_true, kfv, kfit, kOkf, kputv, kputD, kputG, kcpy, kcat, kRR, kNN, true_and, and_true, if_true, if_false, if_pos, Nat.reduceAdd, Nat.reduceEqDiff, Nat.reduceLeDiff, Nat.reduceLT, reduceIte, Prod.mk.injEq, eq_self, false_and, and_false, reduceCtorEq, Nat.reduceSub, List.reverse_cons, List.reverse_nil, List.nil_append, List.cons_append, Option.toList_some, Option.toList_none, not_true_eq_false, not_false_eq_true]
  refine KW_callVX hC hCX (by decide +kernel) kl8_44 (by decide) ((s_leave hr hs c)) rfl rfl (Nat.le_of_ble_eq_true rfl) rfl hx (by simp [kOkL, kOk, hx, hx12]) (by simp [kOkS, kOk, hx, hx12]) (Nat.le_of_ble_eq_true rfl) (Nat.le_of_ble_eq_true rfl) (Nat.le_of_ble_eq_true rfl) ?_ ?_
  · rintro v M' ⟨g, hg, rfl, c1, rfl, hp⟩
    have re : rLeave σ (nI g) = (0, tZ σ 13 g, sendT σ g) := by unfold rLeave; rw [if_pos (rng hg (by omega)), nI_clamp (by omega), if_pos c1]
    obtain ⟨D1, rfl, hr1, ho1⟩ := hp
    refine kwL_leave_7 hC hE ?_
    simp only [kbL_leave_7, mL_leave, kblk, kstp, kent, kpad, kget, kst1, kst2, kc2, cond_false, cond_true, kfv, kfit, kOkf, kputv, kputD, kputG, kcpy, kcat, kRR, kNN, true_and, and_true, if_true, if_false, if_pos, Nat.reduceAdd, Nat.reduceEqDiff, Nat.reduceLeDiff, Nat.reduceLT, reduceIte, Prod.mk.injEq, eq_self, false_and, and_false, reduceCtorEq, Nat.reduceSub, List.reverse_cons, List.reverse_nil, List.nil_append, List.cons_append, Option.toList_some, Option.toList_none, not_true_eq_false, not_false_eq_true, hx12, cl0]
    refine ⟨vp_in_nI (show 0 < 1 by decide) (by decide), ?_⟩
    refine KW_blk hC hE [(.iconst 0, 1, (0, 0, 0), 0, 0), (.ireturn, 1, (0, 0, 0), 0, 0)] _ _ _ _ _ _ (by decide +kernel) ?_
    simp only [kblk, kstp, kent, kpad, kget, kst1, kst2, kc2, cond_false, cond_true, kfv, kfit, kOkf, kputv, kputD, kputG, kcpy, kcat, kRR, kNN, true_and, and_true, if_true, if_false, if_pos, Nat.reduceAdd, Nat.reduceEqDiff, Nat.reduceLeDiff, Nat.reduceLT, reduceIte, Prod.mk.injEq, eq_self, false_and, and_false, reduceCtorEq, Nat.reduceSub, List.reverse_cons, List.reverse_nil, List.nil_append, List.cons_append, Option.toList_some, Option.toList_none, not_true_eq_false, not_false_eq_true, kblk, kstp, mL_leave]
    exact ⟨⟨by rw [re], hOut.ret hr1 ho1 re⟩, trivial, by decide, by decide⟩
  · rintro E M' ⟨⟨rfl, c1⟩ | ⟨rfl, g, hg, rfl, c2⟩, rfl⟩
    · have re : rLeave σ c = (1, 0, σ) := by unfold rLeave; rw [if_neg c1]
      exact KThw_catch hC hCX hE hT (a := 3) (h := 12) (n := 1) (v := 1) (by decide +kernel) (by decide) (Or.inl ⟨3, rfl, by decide +kernel, by decide +kernel, by decide +kernel⟩) (by decide) ⟨⟨by rw [re], hOut.thr hr re (by decide)⟩, trivial, by decide, by decide⟩
    · have re : rLeave σ (nI g) = (2, 0, σ) := by unfold rLeave; rw [if_pos (rng hg (by omega)), nI_clamp (by omega), if_neg c2]
      exact KThw_catch hC hCX hE hT (a := 3) (h := 15) (n := 2) (v := 2) (by decide +kernel) (by decide) (Or.inl ⟨3, rfl, by decide +kernel, by decide +kernel, by decide +kernel⟩) (by decide) ⟨⟨by rw [re], hOut.thr hr re (by decide)⟩, trivial, by decide, by decide⟩
set_option maxRecDepth 100000 in
theorem kcwL_group : Cond.codeWith mL_group.1 mL_group.2.1 mL_group.2.2.1 mL_group.2.2.2.1 [(0, 10, 13, 31)] ∈ kGW := kGW_in (by decide +kernel) (by decide +kernel)
theorem l_group (hr : kRep 0 D σ) {b0 h0 : Nat} (hw : kWf0 b0 h0 0 h0 σ) (hG : tG σ ≤ 90) (c n : Int32) : SpW mL_group [(0, 10, 13, 31)] 1 6 [kR (some (5, 9, 0)), kI c, kI n, kR (some (12, 9, 0))] (km D G) (fun v M' => v = some (kI (rGroup σ c n).1) ∧ hOut D G (rGroup σ c n) M') := by
  refine SpW_of (by decide +kernel) rfl rfl (Nat.le_of_ble_eq_true rfl) ?_
  intro X hC hCX hE hT hL0
  have hs := hw.1
  have hbool := hw.2.2.2.2.2.2
  obtain ⟨bC, bL, bG, -⟩ := hw.1.1
  have hx := kx_live
  have hx12 := kx12_live
  refine kwL_group_0 hC hE ?_
  simp only [kbL_group_0, mL_group, kblk, kstp, kent, kpad, kget, kst1, kst2, kc2, cond_false, cond_true, kfv, kfit, kOkf, kputv, kputD, kputG, kcpy, kcat, kRR, kNN, true_and, and_true, if_true, if_false, if_pos, Nat.reduceAdd, Nat.reduceEqDiff, Nat.reduceLeDiff, Nat.reduceLT, reduceIte, Prod.mk.injEq, eq_self, false_and, and_false, reduceCtorEq, Nat.reduceSub, List.reverse_cons, List.reverse_nil, List.nil_append, List.cons_append, Option.toList_some, Option.toList_none, not_true_eq_false, not_false_eq_true]
  refine KW_callVX hC hCX (by decide +kernel) kl8_47 (by decide) ((s_group hr hs c n)) rfl rfl (Nat.le_of_ble_eq_true rfl) rfl hx (by simp [kOkL, kOk, hx, hx12]) (by simp [kOkS, kOk, hx, hx12]) (Nat.le_of_ble_eq_true rfl) (Nat.le_of_ble_eq_true rfl) (Nat.le_of_ble_eq_true rfl) ?_ ?_
  · rintro v M' ⟨⟨i, j, hi, hj, rfl, rfl, rfl⟩, rfl⟩
    have re : rGroup σ (nI i) (nI j) = (0, tZ σ (10 + j) i, σ) := by unfold rGroup; rw [if_pos ⟨rng hi (by omega), rng (n := 8) hj (by decide)⟩, nI_clamp (show i < 2 ^ 31 by omega), nI_clamp (show j < 2 ^ 31 by omega)]
    have hr1 := hr; have ho1 : ∀ i : KI, i.2.1 ≠ 0 → i.2.1 ≠ 1 → D i = D i := fun _ _ _ => rfl
    refine kwL_group_8 hC hE ?_
    simp only [kbL_group_8, mL_group, kblk, kstp, kent, kpad, kget, kst1, kst2, kc2, cond_false, cond_true, kfv, kfit, kOkf, kputv, kputD, kputG, kcpy, kcat, kRR, kNN, true_and, and_true, if_true, if_false, if_pos, Nat.reduceAdd, Nat.reduceEqDiff, Nat.reduceLeDiff, Nat.reduceLT, reduceIte, Prod.mk.injEq, eq_self, false_and, and_false, reduceCtorEq, Nat.reduceSub, List.reverse_cons, List.reverse_nil, List.nil_append, List.cons_append, Option.toList_some, Option.toList_none, not_true_eq_false, not_false_eq_true, hx12, cl0]
    refine ⟨vp_in_nI (show 0 < 1 by decide) (by decide), ?_⟩
    refine KW_blk hC hE [(.iconst 0, 1, (0, 0, 0), 0, 0), (.ireturn, 1, (0, 0, 0), 0, 0)] _ _ _ _ _ _ (by decide +kernel) ?_
    simp only [kblk, kstp, kent, kpad, kget, kst1, kst2, kc2, cond_false, cond_true, kfv, kfit, kOkf, kputv, kputD, kputG, kcpy, kcat, kRR, kNN, true_and, and_true, if_true, if_false, if_pos, Nat.reduceAdd, Nat.reduceEqDiff, Nat.reduceLeDiff, Nat.reduceLT, reduceIte, Prod.mk.injEq, eq_self, false_and, and_false, reduceCtorEq, Nat.reduceSub, List.reverse_cons, List.reverse_nil, List.nil_append, List.cons_append, Option.toList_some, Option.toList_none, not_true_eq_false, not_false_eq_true, kblk, kstp, mL_group]
    exact ⟨⟨by rw [re], hOut.ret hr1 ho1 re⟩, trivial, by decide, by decide⟩
  · rintro E M' ⟨⟨rfl, c1⟩, rfl⟩
    have re : rGroup σ c n = (1, 0, σ) := by unfold rGroup; rw [if_neg c1]
    exact KThw_catch hC hCX hE hT (a := 4) (h := 13) (n := 1) (v := 1) (by decide +kernel) (by decide) (Or.inr ⟨by decide +kernel, by decide +kernel, by decide +kernel⟩) (by decide) ⟨⟨by rw [re], hOut.thr hr re (by decide)⟩, trivial, by decide, by decide⟩
set_option maxRecDepth 100000 in
theorem kcwL_chair : Cond.codeWith mL_chair.1 mL_chair.2.1 mL_chair.2.2.1 mL_chair.2.2.2.1 [(0, 10, 13, 31)] ∈ kGW := kGW_in (by decide +kernel) (by decide +kernel)
theorem l_chair (hr : kRep 0 D σ) {b0 h0 : Nat} (hw : kWf0 b0 h0 0 h0 σ) (hG : tG σ ≤ 90) (c n : Int32) : SpW mL_chair [(0, 10, 13, 31)] 1 6 [kR (some (5, 9, 0)), kI c, kI n, kR (some (12, 9, 0))] (km D G) (fun v M' => v = some (kI (rChair σ c n).1) ∧ hOut D G (rChair σ c n) M') := by
  refine SpW_of (by decide +kernel) rfl rfl (Nat.le_of_ble_eq_true rfl) ?_
  intro X hC hCX hE hT hL0
  have hs := hw.1
  have hbool := hw.2.2.2.2.2.2
  obtain ⟨bC, bL, bG, -⟩ := hw.1.1
  have hx := kx_live
  have hx12 := kx12_live
  refine kwL_chair_0 hC hE ?_
  simp only [kbL_chair_0, mL_chair, kblk, kstp, kent, kpad, kget, kst1, kst2, kc2, cond_false, cond_true, kfv, kfit, kOkf, kputv, kputD, kputG, kcpy, kcat, kRR, kNN, true_and, and_true, if_true, if_false, if_pos, Nat.reduceAdd, Nat.reduceEqDiff, Nat.reduceLeDiff, Nat.reduceLT, reduceIte, Prod.mk.injEq, eq_self, false_and, and_false, reduceCtorEq, Nat.reduceSub, List.reverse_cons, List.reverse_nil, List.nil_append, List.cons_append, Option.toList_some, Option.toList_none, not_true_eq_false, not_false_eq_true]
  refine KW_callVX hC hCX (by decide +kernel) kl8_50 (by decide) ((s_chair hr hs c n)) rfl rfl (Nat.le_of_ble_eq_true rfl) rfl hx (by simp [kOkL, kOk, hx, hx12]) (by simp [kOkS, kOk, hx, hx12]) (Nat.le_of_ble_eq_true rfl) (Nat.le_of_ble_eq_true rfl) (Nat.le_of_ble_eq_true rfl) ?_ ?_
  · rintro v M' ⟨⟨i, j, hi, hj, rfl, rfl, rfl⟩, rfl⟩
    have re : rChair σ (nI i) (nI j) = (0, tZ σ j i, σ) := by unfold rChair; rw [if_pos ⟨rng hi (by omega), rng (n := 5) hj (by decide)⟩, nI_clamp (show i < 2 ^ 31 by omega), nI_clamp (show j < 2 ^ 31 by omega)]
    have hr1 := hr; have ho1 : ∀ i : KI, i.2.1 ≠ 0 → i.2.1 ≠ 1 → D i = D i := fun _ _ _ => rfl
    refine kwL_chair_8 hC hE ?_
    simp only [kbL_chair_8, mL_chair, kblk, kstp, kent, kpad, kget, kst1, kst2, kc2, cond_false, cond_true, kfv, kfit, kOkf, kputv, kputD, kputG, kcpy, kcat, kRR, kNN, true_and, and_true, if_true, if_false, if_pos, Nat.reduceAdd, Nat.reduceEqDiff, Nat.reduceLeDiff, Nat.reduceLT, reduceIte, Prod.mk.injEq, eq_self, false_and, and_false, reduceCtorEq, Nat.reduceSub, List.reverse_cons, List.reverse_nil, List.nil_append, List.cons_append, Option.toList_some, Option.toList_none, not_true_eq_false, not_false_eq_true, hx12, cl0]
    refine ⟨vp_in_nI (show 0 < 1 by decide) (by decide), ?_⟩
    refine KW_blk hC hE [(.iconst 0, 1, (0, 0, 0), 0, 0), (.ireturn, 1, (0, 0, 0), 0, 0)] _ _ _ _ _ _ (by decide +kernel) ?_
    simp only [kblk, kstp, kent, kpad, kget, kst1, kst2, kc2, cond_false, cond_true, kfv, kfit, kOkf, kputv, kputD, kputG, kcpy, kcat, kRR, kNN, true_and, and_true, if_true, if_false, if_pos, Nat.reduceAdd, Nat.reduceEqDiff, Nat.reduceLeDiff, Nat.reduceLT, reduceIte, Prod.mk.injEq, eq_self, false_and, and_false, reduceCtorEq, Nat.reduceSub, List.reverse_cons, List.reverse_nil, List.nil_append, List.cons_append, Option.toList_some, Option.toList_none, not_true_eq_false, not_false_eq_true, kblk, kstp, mL_chair]
    exact ⟨⟨by rw [re], hOut.ret hr1 ho1 re⟩, trivial, by decide, by decide⟩
  · rintro E M' ⟨⟨rfl, c1⟩, rfl⟩
    have re : rChair σ c n = (1, 0, σ) := by unfold rChair; rw [if_neg c1]
    exact KThw_catch hC hCX hE hT (a := 4) (h := 13) (n := 1) (v := 1) (by decide +kernel) (by decide) (Or.inr ⟨by decide +kernel, by decide +kernel, by decide +kernel⟩) (by decide) ⟨⟨by rw [re], hOut.thr hr re (by decide)⟩, trivial, by decide, by decide⟩
set_option maxRecDepth 100000 in
theorem kcwL_lane : Cond.codeWith mL_lane.1 mL_lane.2.1 mL_lane.2.2.1 mL_lane.2.2.2.1 [(0, 10, 13, 31)] ∈ kGW := kGW_in (by decide +kernel) (by decide +kernel)
theorem l_lane (hr : kRep 0 D σ) {b0 h0 : Nat} (hw : kWf0 b0 h0 0 h0 σ) (hG : tG σ ≤ 90) (c n : Int32) : SpW mL_lane [(0, 10, 13, 31)] 1 6 [kR (some (5, 9, 0)), kI c, kI n, kR (some (12, 9, 0))] (km D G) (fun v M' => v = some (kI (rLane σ c n).1) ∧ hOut D G (rLane σ c n) M') := by
  refine SpW_of (by decide +kernel) rfl rfl (Nat.le_of_ble_eq_true rfl) ?_
  intro X hC hCX hE hT hL0
  have hs := hw.1
  have hbool := hw.2.2.2.2.2.2
  obtain ⟨bC, bL, bG, -⟩ := hw.1.1
  have hx := kx_live
  have hx12 := kx12_live
  refine kwL_lane_0 hC hE ?_
  simp only [kbL_lane_0, mL_lane, kblk, kstp, kent, kpad, kget, kst1, kst2, kc2, cond_false, cond_true, kfv, kfit, kOkf, kputv, kputD, kputG, kcpy, kcat, kRR, kNN, true_and, and_true, if_true, if_false, if_pos, Nat.reduceAdd, Nat.reduceEqDiff, Nat.reduceLeDiff, Nat.reduceLT, reduceIte, Prod.mk.injEq, eq_self, false_and, and_false, reduceCtorEq, Nat.reduceSub, List.reverse_cons, List.reverse_nil, List.nil_append, List.cons_append, Option.toList_some, Option.toList_none, not_true_eq_false, not_false_eq_true]
  refine KW_callVX hC hCX (by decide +kernel) kl8_53 (by decide) ((s_lane hr hs c n)) rfl rfl (Nat.le_of_ble_eq_true rfl) rfl hx (by simp [kOkL, kOk, hx, hx12]) (by simp [kOkS, kOk, hx, hx12]) (Nat.le_of_ble_eq_true rfl) (Nat.le_of_ble_eq_true rfl) (Nat.le_of_ble_eq_true rfl) ?_ ?_
  · rintro v M' ⟨⟨i, j, hi, hj, rfl, rfl, rfl⟩, rfl⟩
    have re : rLane σ (nI i) (nI j) = (0, tLaneFact σ i j, σ) := by unfold rLane; rw [if_pos ⟨rng hi (by omega), rng (n := 4) hj (by decide)⟩, nI_clamp (show i < 2 ^ 31 by omega), nI_clamp (show j < 2 ^ 31 by omega)]
    have hr1 := hr; have ho1 : ∀ i : KI, i.2.1 ≠ 0 → i.2.1 ≠ 1 → D i = D i := fun _ _ _ => rfl
    refine kwL_lane_8 hC hE ?_
    simp only [kbL_lane_8, mL_lane, kblk, kstp, kent, kpad, kget, kst1, kst2, kc2, cond_false, cond_true, kfv, kfit, kOkf, kputv, kputD, kputG, kcpy, kcat, kRR, kNN, true_and, and_true, if_true, if_false, if_pos, Nat.reduceAdd, Nat.reduceEqDiff, Nat.reduceLeDiff, Nat.reduceLT, reduceIte, Prod.mk.injEq, eq_self, false_and, and_false, reduceCtorEq, Nat.reduceSub, List.reverse_cons, List.reverse_nil, List.nil_append, List.cons_append, Option.toList_some, Option.toList_none, not_true_eq_false, not_false_eq_true, hx12, cl0]
    refine ⟨vp_in_nI (show 0 < 1 by decide) (by decide), ?_⟩
    refine KW_blk hC hE [(.iconst 0, 1, (0, 0, 0), 0, 0), (.ireturn, 1, (0, 0, 0), 0, 0)] _ _ _ _ _ _ (by decide +kernel) ?_
    simp only [kblk, kstp, kent, kpad, kget, kst1, kst2, kc2, cond_false, cond_true, kfv, kfit, kOkf, kputv, kputD, kputG, kcpy, kcat, kRR, kNN, true_and, and_true, if_true, if_false, if_pos, Nat.reduceAdd, Nat.reduceEqDiff, Nat.reduceLeDiff, Nat.reduceLT, reduceIte, Prod.mk.injEq, eq_self, false_and, and_false, reduceCtorEq, Nat.reduceSub, List.reverse_cons, List.reverse_nil, List.nil_append, List.cons_append, Option.toList_some, Option.toList_none, not_true_eq_false, not_false_eq_true, kblk, kstp, mL_lane]
    exact ⟨⟨by rw [re], hOut.ret hr1 ho1 re⟩, trivial, by decide, by decide⟩
  · rintro E M' ⟨⟨rfl, c1⟩, rfl⟩
    have re : rLane σ c n = (1, 0, σ) := by unfold rLane; rw [if_neg c1]
    exact KThw_catch hC hCX hE hT (a := 4) (h := 13) (n := 1) (v := 1) (by decide +kernel) (by decide) (Or.inr ⟨by decide +kernel, by decide +kernel, by decide +kernel⟩) (by decide) ⟨⟨by rw [re], hOut.thr hr re (by decide)⟩, trivial, by decide, by decide⟩
set_option maxRecDepth 100000 in
theorem kcwL_queue : Cond.codeWith mL_queue.1 mL_queue.2.1 mL_queue.2.2.1 mL_queue.2.2.2.1 [(0, 10, 13, 31)] ∈ kGW := kGW_in (by decide +kernel) (by decide +kernel)
theorem l_queue (hr : kRep 0 D σ) {b0 h0 : Nat} (hw : kWf0 b0 h0 0 h0 σ) (hG : tG σ ≤ 90) (c n : Int32) : SpW mL_queue [(0, 10, 13, 31)] 1 6 [kR (some (5, 9, 0)), kI c, kI n, kR (some (12, 9, 0))] (km D G) (fun v M' => v = some (kI (rQueue σ c n).1) ∧ hOut D G (rQueue σ c n) M') := by
  refine SpW_of (by decide +kernel) rfl rfl (Nat.le_of_ble_eq_true rfl) ?_
  intro X hC hCX hE hT hL0
  have hs := hw.1
  have hbool := hw.2.2.2.2.2.2
  obtain ⟨bC, bL, bG, -⟩ := hw.1.1
  have hx := kx_live
  have hx12 := kx12_live
  refine kwL_queue_0 hC hE ?_
  simp only [kbL_queue_0, mL_queue, kblk, kstp, kent, kpad, kget, kst1, kst2, kc2, cond_false, cond_true, kfv, kfit, kOkf, kputv, kputD, kputG, kcpy, kcat, kRR, kNN, true_and, and_true, if_true, if_false, if_pos, Nat.reduceAdd, Nat.reduceEqDiff, Nat.reduceLeDiff, Nat.reduceLT, reduceIte, Prod.mk.injEq, eq_self, false_and, and_false, reduceCtorEq, Nat.reduceSub, List.reverse_cons, List.reverse_nil, List.nil_append, List.cons_append, Option.toList_some, Option.toList_none, not_true_eq_false, not_false_eq_true]
  refine KW_callVX hC hCX (by decide +kernel) kl8_56 (by decide) ((s_queue hr hs c n)) rfl rfl (Nat.le_of_ble_eq_true rfl) rfl hx (by simp [kOkL, kOk, hx, hx12]) (by simp [kOkS, kOk, hx, hx12]) (Nat.le_of_ble_eq_true rfl) (Nat.le_of_ble_eq_true rfl) (Nat.le_of_ble_eq_true rfl) ?_ ?_
  · rintro v M' ⟨⟨l, i, x, hl, rfl, rfl, hx, rfl⟩, rfl⟩
    have re : rQueue σ (nI l) (nI i) = (0, nI x, σ) := by unfold rQueue; have hil := (List.getElem?_eq_some_iff.mp hx).1; have hql := hs.qlen hl; rw [nI_clamp (show l < 2 ^ 31 by omega), if_pos ⟨rng hl (by omega), rng hil (by omega)⟩, nI_clamp (show i < 2 ^ 31 by omega), hx, Option.getD_some]
    have hr1 := hr; have ho1 : ∀ i : KI, i.2.1 ≠ 0 → i.2.1 ≠ 1 → D i = D i := fun _ _ _ => rfl
    refine kwL_queue_8 hC hE ?_
    simp only [kbL_queue_8, mL_queue, kblk, kstp, kent, kpad, kget, kst1, kst2, kc2, cond_false, cond_true, kfv, kfit, kOkf, kputv, kputD, kputG, kcpy, kcat, kRR, kNN, true_and, and_true, if_true, if_false, if_pos, Nat.reduceAdd, Nat.reduceEqDiff, Nat.reduceLeDiff, Nat.reduceLT, reduceIte, Prod.mk.injEq, eq_self, false_and, and_false, reduceCtorEq, Nat.reduceSub, List.reverse_cons, List.reverse_nil, List.nil_append, List.cons_append, Option.toList_some, Option.toList_none, not_true_eq_false, not_false_eq_true, hx12, cl0]
    refine ⟨vp_in_nI (show 0 < 1 by decide) (by decide), ?_⟩
    refine KW_blk hC hE [(.iconst 0, 1, (0, 0, 0), 0, 0), (.ireturn, 1, (0, 0, 0), 0, 0)] _ _ _ _ _ _ (by decide +kernel) ?_
    simp only [kblk, kstp, kent, kpad, kget, kst1, kst2, kc2, cond_false, cond_true, kfv, kfit, kOkf, kputv, kputD, kputG, kcpy, kcat, kRR, kNN, true_and, and_true, if_true, if_false, if_pos, Nat.reduceAdd, Nat.reduceEqDiff, Nat.reduceLeDiff, Nat.reduceLT, reduceIte, Prod.mk.injEq, eq_self, false_and, and_false, reduceCtorEq, Nat.reduceSub, List.reverse_cons, List.reverse_nil, List.nil_append, List.cons_append, Option.toList_some, Option.toList_none, not_true_eq_false, not_false_eq_true, kblk, kstp, mL_queue]
    exact ⟨⟨by rw [re], hOut.ret hr1 ho1 re⟩, trivial, by decide, by decide⟩
  · rintro E M' ⟨⟨rfl, c1⟩, rfl⟩
    have re : rQueue σ c n = (1, 0, σ) := by unfold rQueue; rw [if_neg c1]
    exact KThw_catch hC hCX hE hT (a := 4) (h := 13) (n := 1) (v := 1) (by decide +kernel) (by decide) (Or.inr ⟨by decide +kernel, by decide +kernel, by decide +kernel⟩) (by decide) ⟨⟨by rw [re], hOut.thr hr re (by decide)⟩, trivial, by decide, by decide⟩
set_option maxRecDepth 100000 in
theorem kcwL_shed : Cond.codeWith mL_shed.1 mL_shed.2.1 mL_shed.2.2.1 mL_shed.2.2.2.1 [(0, 9, 12, 31)] ∈ kGW := kGW_in (by decide +kernel) (by decide +kernel)
theorem l_shed (hr : kRep 0 D σ) {b0 h0 : Nat} (hw : kWf0 b0 h0 0 h0 σ) (hG : tG σ ≤ 90) (n : Int32) : SpW mL_shed [(0, 9, 12, 31)] 1 6 [kR (some (5, 9, 0)), kI n, kR (some (12, 9, 0))] (km D G) (fun v M' => v = some (kI (rShed σ n).1) ∧ hOut D G (rShed σ n) M') := by
  refine SpW_of (by decide +kernel) rfl rfl (Nat.le_of_ble_eq_true rfl) ?_
  intro X hC hCX hE hT hL0
  have hs := hw.1
  have hbool := hw.2.2.2.2.2.2
  obtain ⟨bC, bL, bG, -⟩ := hw.1.1
  have hx := kx_live
  have hx12 := kx12_live
  refine kwL_shed_0 hC hE ?_
  simp only [kbL_shed_0, mL_shed, kblk, kstp, kent, kpad, kget, kst1, kst2, kc2, cond_false, cond_true, kfv, kfit, kOkf, kputv, kputD, kputG, kcpy, kcat, kRR, kNN, true_and, and_true, if_true, if_false, if_pos, Nat.reduceAdd, Nat.reduceEqDiff, Nat.reduceLeDiff, Nat.reduceLT, reduceIte, Prod.mk.injEq, eq_self, false_and, and_false, reduceCtorEq, Nat.reduceSub, List.reverse_cons, List.reverse_nil, List.nil_append, List.cons_append, Option.toList_some, Option.toList_none, not_true_eq_false, not_false_eq_true]
  refine KW_callVX hC hCX (by decide +kernel) kl8_59 (by decide) ((s_shed hr hs n)) rfl rfl (Nat.le_of_ble_eq_true rfl) rfl hx (by simp [kOkL, kOk, hx, hx12]) (by simp [kOkS, kOk, hx, hx12]) (Nat.le_of_ble_eq_true rfl) (Nat.le_of_ble_eq_true rfl) (Nat.le_of_ble_eq_true rfl) ?_ ?_
  · rintro v M' ⟨⟨i, x, rfl, hx, rfl⟩, rfl⟩
    have re : rShed σ (nI i) = (0, nI x, σ) := by unfold rShed; have hil := (List.getElem?_eq_some_iff.mp hx).1; have hql := hs.slen; rw [if_pos (rng hil (by omega)), nI_clamp (show i < 2 ^ 31 by omega), hx, Option.getD_some]
    have hr1 := hr; have ho1 : ∀ i : KI, i.2.1 ≠ 0 → i.2.1 ≠ 1 → D i = D i := fun _ _ _ => rfl
    refine kwL_shed_7 hC hE ?_
    simp only [kbL_shed_7, mL_shed, kblk, kstp, kent, kpad, kget, kst1, kst2, kc2, cond_false, cond_true, kfv, kfit, kOkf, kputv, kputD, kputG, kcpy, kcat, kRR, kNN, true_and, and_true, if_true, if_false, if_pos, Nat.reduceAdd, Nat.reduceEqDiff, Nat.reduceLeDiff, Nat.reduceLT, reduceIte, Prod.mk.injEq, eq_self, false_and, and_false, reduceCtorEq, Nat.reduceSub, List.reverse_cons, List.reverse_nil, List.nil_append, List.cons_append, Option.toList_some, Option.toList_none, not_true_eq_false, not_false_eq_true, hx12, cl0]
    refine ⟨vp_in_nI (show 0 < 1 by decide) (by decide), ?_⟩
    refine KW_blk hC hE [(.iconst 0, 1, (0, 0, 0), 0, 0), (.ireturn, 1, (0, 0, 0), 0, 0)] _ _ _ _ _ _ (by decide +kernel) ?_
    simp only [kblk, kstp, kent, kpad, kget, kst1, kst2, kc2, cond_false, cond_true, kfv, kfit, kOkf, kputv, kputD, kputG, kcpy, kcat, kRR, kNN, true_and, and_true, if_true, if_false, if_pos, Nat.reduceAdd, Nat.reduceEqDiff, Nat.reduceLeDiff, Nat.reduceLT, reduceIte, Prod.mk.injEq, eq_self, false_and, and_false, reduceCtorEq, Nat.reduceSub, List.reverse_cons, List.reverse_nil, List.nil_append, List.cons_append, Option.toList_some, Option.toList_none, not_true_eq_false, not_false_eq_true, kblk, kstp, mL_shed]
    exact ⟨⟨by rw [re], hOut.ret hr1 ho1 re⟩, trivial, by decide, by decide⟩
  · rintro E M' ⟨⟨rfl, c1⟩, rfl⟩
    have re : rShed σ n = (1, 0, σ) := by unfold rShed; rw [if_neg c1]
    exact KThw_catch hC hCX hE hT (a := 3) (h := 12) (n := 1) (v := 1) (by decide +kernel) (by decide) (Or.inl ⟨3, rfl, by decide +kernel, by decide +kernel, by decide +kernel⟩) (by decide) ⟨⟨by rw [re], hOut.thr hr re (by decide)⟩, trivial, by decide, by decide⟩
set_option maxRecDepth 100000 in
theorem kcwL_pass : Cond.codeWith mL_pass.1 mL_pass.2.1 mL_pass.2.2.1 mL_pass.2.2.2.1 [(0, 9, 12, 13)] ∈ kGW := kGW_in (by decide +kernel) (by decide +kernel)
theorem l_pass (hr : kRep 0 D σ) {b0 h0 : Nat} (hw : kWf0 b0 h0 0 h0 σ) (hG : tG σ ≤ 90) (n : Int32) : SpW mL_pass [(0, 9, 12, 13)] 1 6 [kR (some (5, 9, 0)), kI n, kR (some (12, 9, 0))] (km D G) (fun v M' => v = some (kI (rPass σ n).1) ∧ hOut D G (rPass σ n) M') := by
  refine SpW_of (by decide +kernel) rfl rfl (Nat.le_of_ble_eq_true rfl) ?_
  intro X hC hCX hE hT hL0
  have hs := hw.1
  have hbool := hw.2.2.2.2.2.2
  obtain ⟨bC, bL, bG, -⟩ := hw.1.1
  have hx := kx_live
  have hx12 := kx12_live
  refine kwL_pass_0 hC hE ?_
  simp only [kbL_pass_0, mL_pass, kblk, kstp, kent, kpad, kget, kst1, kst2, kc2, cond_false, cond_true, kfv, kfit, kOkf, kputv, kputD, kputG, kcpy, kcat, kRR, kNN, true_and, and_true, if_true, if_false, if_pos, Nat.reduceAdd, Nat.reduceEqDiff, Nat.reduceLeDiff, Nat.reduceLT, reduceIte, Prod.mk.injEq, eq_self, false_and, and_false, reduceCtorEq, Nat.reduceSub, List.reverse_cons, List.reverse_nil, List.nil_append, List.cons_append, Option.toList_some, Option.toList_none, not_true_eq_false, not_false_eq_true]
  refine KW_callVX hC hCX (by decide +kernel) kl8_62 (by decide) ((s_pass hr hs n)) rfl rfl (Nat.le_of_ble_eq_true rfl) rfl hx (by simp [kOkL, kOk, hx, hx12]) (by simp [kOkS, kOk, hx, hx12]) (Nat.le_of_ble_eq_true rfl) (Nat.le_of_ble_eq_true rfl) (Nat.le_of_ble_eq_true rfl) ?_ ?_
  · rintro v M' ⟨k, k1, k2, rfl, rfl, hp⟩
    have re : rPass σ (nI k) = (0, tStepsUp k σ, tSteps k σ) := by unfold rPass; rw [if_pos (show 1 ≤ nI k ∧ nI k ≤ 200 from rng1 (n := 200) k1 k2 (by decide)), nI_clamp (by omega)]
    obtain ⟨D1, rfl, hr1, ho1⟩ := hp
    refine kwL_pass_7 hC hE ?_
    simp only [kbL_pass_7, mL_pass, kblk, kstp, kent, kpad, kget, kst1, kst2, kc2, cond_false, cond_true, kfv, kfit, kOkf, kputv, kputD, kputG, kcpy, kcat, kRR, kNN, true_and, and_true, if_true, if_false, if_pos, Nat.reduceAdd, Nat.reduceEqDiff, Nat.reduceLeDiff, Nat.reduceLT, reduceIte, Prod.mk.injEq, eq_self, false_and, and_false, reduceCtorEq, Nat.reduceSub, List.reverse_cons, List.reverse_nil, List.nil_append, List.cons_append, Option.toList_some, Option.toList_none, not_true_eq_false, not_false_eq_true, hx12, cl0]
    refine ⟨vp_in_nI (show 0 < 1 by decide) (by decide), ?_⟩
    refine KW_blk hC hE [(.iconst 0, 1, (0, 0, 0), 0, 0), (.ireturn, 1, (0, 0, 0), 0, 0)] _ _ _ _ _ _ (by decide +kernel) ?_
    simp only [kblk, kstp, kent, kpad, kget, kst1, kst2, kc2, cond_false, cond_true, kfv, kfit, kOkf, kputv, kputD, kputG, kcpy, kcat, kRR, kNN, true_and, and_true, if_true, if_false, if_pos, Nat.reduceAdd, Nat.reduceEqDiff, Nat.reduceLeDiff, Nat.reduceLT, reduceIte, Prod.mk.injEq, eq_self, false_and, and_false, reduceCtorEq, Nat.reduceSub, List.reverse_cons, List.reverse_nil, List.nil_append, List.cons_append, Option.toList_some, Option.toList_none, not_true_eq_false, not_false_eq_true, kblk, kstp, mL_pass]
    exact ⟨⟨by rw [re], hOut.ret hr1 ho1 re⟩, trivial, by decide, by decide⟩
  · rintro E M' ⟨⟨rfl, c1⟩, rfl⟩
    have re : rPass σ n = (1, 0, σ) := by unfold rPass; rw [if_neg c1]
    exact KThw_catch hC hCX hE hT (a := 3) (h := 12) (n := 1) (v := 1) (by decide +kernel) (by decide) (Or.inl ⟨3, rfl, by decide +kernel, by decide +kernel, by decide +kernel⟩) (by decide) ⟨⟨by rw [re], hOut.thr hr re (by decide)⟩, trivial, by decide, by decide⟩
set_option maxRecDepth 100000 in
theorem kcwL_count : Cond.codeWith mL_count.1 mL_count.2.1 mL_count.2.2.1 mL_count.2.2.2.1 [(0, 9, 12, 31)] ∈ kGW := kGW_in (by decide +kernel) (by decide +kernel)
theorem l_count (hr : kRep 0 D σ) {b0 h0 : Nat} (hw : kWf0 b0 h0 0 h0 σ) (hG : tG σ ≤ 90) (n : Int32) : SpW mL_count [(0, 9, 12, 31)] 1 6 [kR (some (5, 9, 0)), kI n, kR (some (12, 9, 0))] (km D G) (fun v M' => v = some (kI (rCount σ n).1) ∧ hOut D G (rCount σ n) M') := by
  refine SpW_of (by decide +kernel) rfl rfl (Nat.le_of_ble_eq_true rfl) ?_
  intro X hC hCX hE hT hL0
  have hs := hw.1
  have hbool := hw.2.2.2.2.2.2
  obtain ⟨bC, bL, bG, -⟩ := hw.1.1
  have hx := kx_live
  have hx12 := kx12_live
  refine kwL_count_0 hC hE ?_
  simp only [kbL_count_0, mL_count, kblk, kstp, kent, kpad, kget, kst1, kst2, kc2, cond_false, cond_true, kfv, kfit, kOkf, kputv, kputD, kputG, kcpy, kcat, kRR, kNN, true_and, and_true, if_true, if_false, if_pos, Nat.reduceAdd, Nat.reduceEqDiff, Nat.reduceLeDiff, Nat.reduceLT, reduceIte, Prod.mk.injEq, eq_self, false_and, and_false, reduceCtorEq, Nat.reduceSub, List.reverse_cons, List.reverse_nil, List.nil_append, List.cons_append, Option.toList_some, Option.toList_none, not_true_eq_false, not_false_eq_true]
  refine KW_callVX hC hCX (by decide +kernel) kl8_65 (by decide) ((s_count hr hs n)) rfl rfl (Nat.le_of_ble_eq_true rfl) rfl hx (by simp [kOkL, kOk, hx, hx12]) (by simp [kOkS, kOk, hx, hx12]) (Nat.le_of_ble_eq_true rfl) (Nat.le_of_ble_eq_true rfl) (Nat.le_of_ble_eq_true rfl) ?_ ?_
  · rintro v M' ⟨⟨i, hi, rfl, rfl⟩, rfl⟩
    have re : rCount σ (nI i) = (0, tFact σ i, σ) := by unfold rCount; rw [if_pos (show 0 ≤ nI i ∧ nI i < 13 from rng (n := 13) hi (by decide)), nI_clamp (by omega)]
    have hr1 := hr; have ho1 : ∀ i : KI, i.2.1 ≠ 0 → i.2.1 ≠ 1 → D i = D i := fun _ _ _ => rfl
    refine kwL_count_7 hC hE ?_
    simp only [kbL_count_7, mL_count, kblk, kstp, kent, kpad, kget, kst1, kst2, kc2, cond_false, cond_true, kfv, kfit, kOkf, kputv, kputD, kputG, kcpy, kcat, kRR, kNN, true_and, and_true, if_true, if_false, if_pos, Nat.reduceAdd, Nat.reduceEqDiff, Nat.reduceLeDiff, Nat.reduceLT, reduceIte, Prod.mk.injEq, eq_self, false_and, and_false, reduceCtorEq, Nat.reduceSub, List.reverse_cons, List.reverse_nil, List.nil_append, List.cons_append, Option.toList_some, Option.toList_none, not_true_eq_false, not_false_eq_true, hx12, cl0]
    refine ⟨vp_in_nI (show 0 < 1 by decide) (by decide), ?_⟩
    refine KW_blk hC hE [(.iconst 0, 1, (0, 0, 0), 0, 0), (.ireturn, 1, (0, 0, 0), 0, 0)] _ _ _ _ _ _ (by decide +kernel) ?_
    simp only [kblk, kstp, kent, kpad, kget, kst1, kst2, kc2, cond_false, cond_true, kfv, kfit, kOkf, kputv, kputD, kputG, kcpy, kcat, kRR, kNN, true_and, and_true, if_true, if_false, if_pos, Nat.reduceAdd, Nat.reduceEqDiff, Nat.reduceLeDiff, Nat.reduceLT, reduceIte, Prod.mk.injEq, eq_self, false_and, and_false, reduceCtorEq, Nat.reduceSub, List.reverse_cons, List.reverse_nil, List.nil_append, List.cons_append, Option.toList_some, Option.toList_none, not_true_eq_false, not_false_eq_true, kblk, kstp, mL_count]
    exact ⟨⟨by rw [re], hOut.ret hr1 ho1 re⟩, trivial, by decide, by decide⟩
  · rintro E M' ⟨⟨rfl, c1⟩, rfl⟩
    have re : rCount σ n = (1, 0, σ) := by unfold rCount; rw [if_neg c1]
    exact KThw_catch hC hCX hE hT (a := 3) (h := 12) (n := 1) (v := 1) (by decide +kernel) (by decide) (Or.inl ⟨3, rfl, by decide +kernel, by decide +kernel, by decide +kernel⟩) (by decide) ⟨⟨by rw [re], hOut.thr hr re (by decide)⟩, trivial, by decide, by decide⟩
set_option maxRecDepth 100000 in
theorem kcwL_foresee : Cond.codeWith mL_foresee.1 mL_foresee.2.1 mL_foresee.2.2.1 mL_foresee.2.2.2.1 [(0, 10, 13, 13), (0, 10, 17, 31)] ∈ kGW := kGW_in (by decide +kernel) (by decide +kernel)
theorem l_foresee (hr : kRep 0 D σ) {b0 h0 : Nat} (hw : kWf0 b0 h0 0 h0 σ) (hG : tG σ ≤ 90) (c n : Int32) : SpW mL_foresee [(0, 10, 13, 13), (0, 10, 17, 31)] 2 12 [kR (some (5, 9, 0)), kI c, kI n, kR (some (12, 9, 0))] (km D G) (fun v M' => v = some (kI (rForesee σ c n).1) ∧ hOut D G (rForesee σ c n) M') := by
  refine SpW_of (by decide +kernel) rfl rfl (Nat.le_of_ble_eq_true rfl) ?_
  intro X hC hCX hE hT hL0
  have hs := hw.1
  have hbool := hw.2.2.2.2.2.2
  obtain ⟨bC, bL, bG, -⟩ := hw.1.1
  have hx := kx_live
  have hx12 := kx12_live
  refine kwL_foresee_0 hC hE ?_
  simp only [kbL_foresee_0, mL_foresee, kblk, kstp, kent, kpad, kget, kst1, kst2, kc2, cond_false, cond_true, kfv, kfit, kOkf, kputv, kputD, kputG, kcpy, kcat, kRR, kNN, true_and, and_true, if_true, if_false, if_pos, Nat.reduceAdd, Nat.reduceEqDiff, Nat.reduceLeDiff, Nat.reduceLT, reduceIte, Prod.mk.injEq, eq_self, false_and, and_false, reduceCtorEq, Nat.reduceSub, List.reverse_cons, List.reverse_nil, List.nil_append, List.cons_append, Option.toList_some, Option.toList_none, not_true_eq_false, not_false_eq_true]
  refine KW_callVX hC hCX (by decide +kernel) kl8_68 (by decide) ((s_foresee hr hs hbool c n)) rfl rfl (Nat.le_of_ble_eq_true rfl) rfl hx (by simp [kOkL, kOk, hx, hx12]) (by simp [kOkS, kOk, hx, hx12]) (Nat.le_of_ble_eq_true rfl) (Nat.le_of_ble_eq_true rfl) (Nat.le_of_ble_eq_true rfl) ?_ ?_
  · rintro v M' ⟨⟨k, k1, k2, rfl, c2, rfl⟩, hp⟩
    have re : rForesee σ (nI k) n = (0, (if n = 0 then tStepsUp k σ else if n = 1 then tPeople (tSteps k σ) 0 else tCold (tSteps k σ) - tCold σ), σ) := by unfold rForesee; rw [if_pos (show 1 ≤ nI k ∧ nI k ≤ 150 from rng1 (n := 150) k1 k2 (by decide)), if_pos c2, nI_clamp (by omega)]
    obtain ⟨D1, rfl, hr1, ho1⟩ := hp
    refine kwL_foresee_8 hC hE ?_
    simp only [kbL_foresee_8, mL_foresee, kblk, kstp, kent, kpad, kget, kst1, kst2, kc2, cond_false, cond_true, kfv, kfit, kOkf, kputv, kputD, kputG, kcpy, kcat, kRR, kNN, true_and, and_true, if_true, if_false, if_pos, Nat.reduceAdd, Nat.reduceEqDiff, Nat.reduceLeDiff, Nat.reduceLT, reduceIte, Prod.mk.injEq, eq_self, false_and, and_false, reduceCtorEq, Nat.reduceSub, List.reverse_cons, List.reverse_nil, List.nil_append, List.cons_append, Option.toList_some, Option.toList_none, not_true_eq_false, not_false_eq_true, hx12, cl0]
    refine ⟨vp_in_nI (show 0 < 1 by decide) (by decide), ?_⟩
    refine KW_blk hC hE [(.iconst 0, 1, (0, 0, 0), 0, 0), (.ireturn, 1, (0, 0, 0), 0, 0)] _ _ _ _ _ _ (by decide +kernel) ?_
    simp only [kblk, kstp, kent, kpad, kget, kst1, kst2, kc2, cond_false, cond_true, kfv, kfit, kOkf, kputv, kputD, kputG, kcpy, kcat, kRR, kNN, true_and, and_true, if_true, if_false, if_pos, Nat.reduceAdd, Nat.reduceEqDiff, Nat.reduceLeDiff, Nat.reduceLT, reduceIte, Prod.mk.injEq, eq_self, false_and, and_false, reduceCtorEq, Nat.reduceSub, List.reverse_cons, List.reverse_nil, List.nil_append, List.cons_append, Option.toList_some, Option.toList_none, not_true_eq_false, not_false_eq_true, kblk, kstp, mL_foresee]
    exact ⟨⟨by rw [re], hOut.ret hr1 ho1 re⟩, trivial, by decide, by decide⟩
  · rintro E M' ⟨⟨rfl, c1⟩ | ⟨rfl, c1, c2⟩, rfl⟩
    · have re : rForesee σ c n = (1, 0, σ) := by unfold rForesee; rw [if_neg c1]
      exact KThw_catch hC hCX hE hT (a := 4) (h := 13) (n := 1) (v := 1) (by decide +kernel) (by decide) (Or.inr ⟨by decide +kernel, by decide +kernel, by decide +kernel⟩) (by decide) ⟨⟨by rw [re], hOut.thr hr re (by decide)⟩, trivial, by decide, by decide⟩
    · have re : rForesee σ c n = (2, 0, σ) := by unfold rForesee; rw [if_pos c1, if_neg c2]
      exact KThw_catch hC hCX hE hT (a := 4) (h := 17) (n := 2) (v := 2) (by decide +kernel) (by decide) (Or.inr ⟨by decide +kernel, by decide +kernel, by decide +kernel⟩) (by decide) ⟨⟨by rw [re], hOut.thr hr re (by decide)⟩, trivial, by decide, by decide⟩
set_option maxRecDepth 100000 in
theorem kcwL_when : Cond.codeWith mL_when.1 mL_when.2.1 mL_when.2.2.1 mL_when.2.2.2.1 [(0, 9, 12, 31)] ∈ kGW := kGW_in (by decide +kernel) (by decide +kernel)
theorem l_when (hr : kRep 0 D σ) {b0 h0 : Nat} (hw : kWf0 b0 h0 0 h0 σ) (hG : tG σ ≤ 90) (c : Int32) : SpW mL_when [(0, 9, 12, 31)] 1 6 [kR (some (5, 9, 0)), kI c, kR (some (12, 9, 0))] (km D G) (fun v M' => v = some (kI (rWhen σ c).1) ∧ hOut D G (rWhen σ c) M') := by
  refine SpW_of (by decide +kernel) rfl rfl (Nat.le_of_ble_eq_true rfl) ?_
  intro X hC hCX hE hT hL0
  have hs := hw.1
  have hbool := hw.2.2.2.2.2.2
  obtain ⟨bC, bL, bG, -⟩ := hw.1.1
  have hx := kx_live
  have hx12 := kx12_live
  refine kwL_when_0 hC hE ?_
  simp only [kbL_when_0, mL_when, kblk, kstp, kent, kpad, kget, kst1, kst2, kc2, cond_false, cond_true, kfv, kfit, kOkf, kputv, kputD, kputG, kcpy, kcat, kRR, kNN, true_and, and_true, if_true, if_false, if_pos, Nat.reduceAdd, Nat.reduceEqDiff, Nat.reduceLeDiff, Nat.reduceLT, reduceIte, Prod.mk.injEq, eq_self, false_and, and_false, reduceCtorEq, Nat.reduceSub, List.reverse_cons, List.reverse_nil, List.nil_append, List.cons_append, Option.toList_some, Option.toList_none, not_true_eq_false, not_false_eq_true]
  refine KW_callVX hC hCX (by decide +kernel) kl8_71 (by decide) ((s_when hr hs hbool c)) rfl rfl (Nat.le_of_ble_eq_true rfl) rfl hx (by simp [kOkL, kOk, hx, hx12]) (by simp [kOkS, kOk, hx, hx12]) (Nat.le_of_ble_eq_true rfl) (Nat.le_of_ble_eq_true rfl) (Nat.le_of_ble_eq_true rfl) ?_ ?_
  · rintro v M' ⟨⟨g, hg, rfl, rfl⟩, hp⟩
    have re : rWhen σ (nI g) = (0, (if tZ σ 12 g = 2 then 0 else tUntil g 250 1 σ), σ) := by unfold rWhen; rw [if_pos (rng hg (by omega)), nI_clamp (by omega)]
    obtain ⟨D1, rfl, hr1, ho1⟩ := hp
    refine kwL_when_7 hC hE ?_
    simp only [kbL_when_7, mL_when, kblk, kstp, kent, kpad, kget, kst1, kst2, kc2, cond_false, cond_true, kfv, kfit, kOkf, kputv, kputD, kputG, kcpy, kcat, kRR, kNN, true_and, and_true, if_true, if_false, if_pos, Nat.reduceAdd, Nat.reduceEqDiff, Nat.reduceLeDiff, Nat.reduceLT, reduceIte, Prod.mk.injEq, eq_self, false_and, and_false, reduceCtorEq, Nat.reduceSub, List.reverse_cons, List.reverse_nil, List.nil_append, List.cons_append, Option.toList_some, Option.toList_none, not_true_eq_false, not_false_eq_true, hx12, cl0]
    refine ⟨vp_in_nI (show 0 < 1 by decide) (by decide), ?_⟩
    refine KW_blk hC hE [(.iconst 0, 1, (0, 0, 0), 0, 0), (.ireturn, 1, (0, 0, 0), 0, 0)] _ _ _ _ _ _ (by decide +kernel) ?_
    simp only [kblk, kstp, kent, kpad, kget, kst1, kst2, kc2, cond_false, cond_true, kfv, kfit, kOkf, kputv, kputD, kputG, kcpy, kcat, kRR, kNN, true_and, and_true, if_true, if_false, if_pos, Nat.reduceAdd, Nat.reduceEqDiff, Nat.reduceLeDiff, Nat.reduceLT, reduceIte, Prod.mk.injEq, eq_self, false_and, and_false, reduceCtorEq, Nat.reduceSub, List.reverse_cons, List.reverse_nil, List.nil_append, List.cons_append, Option.toList_some, Option.toList_none, not_true_eq_false, not_false_eq_true, kblk, kstp, mL_when]
    exact ⟨⟨by rw [re], hOut.ret hr1 ho1 re⟩, trivial, by decide, by decide⟩
  · rintro E M' ⟨⟨rfl, c1⟩, rfl⟩
    have re : rWhen σ c = (1, 0, σ) := by unfold rWhen; rw [if_neg c1]
    exact KThw_catch hC hCX hE hT (a := 3) (h := 12) (n := 1) (v := 1) (by decide +kernel) (by decide) (Or.inl ⟨3, rfl, by decide +kernel, by decide +kernel, by decide +kernel⟩) (by decide) ⟨⟨by rw [re], hOut.thr hr re (by decide)⟩, trivial, by decide, by decide⟩
set_option maxRecDepth 100000 in
theorem kcwL_advise : Cond.codeWith mL_advise.1 mL_advise.2.1 mL_advise.2.2.1 mL_advise.2.2.2.1 [(0, 9, 12, 13)] ∈ kGW := kGW_in (by decide +kernel) (by decide +kernel)
theorem l_advise (hr : kRep 0 D σ) {b0 h0 : Nat} (hw : kWf0 b0 h0 0 h0 σ) (hG : tG σ ≤ 90) (n : Int32) : SpW mL_advise [(0, 9, 12, 13)] 1 6 [kR (some (5, 9, 0)), kI n, kR (some (12, 9, 0))] (km D G) (fun v M' => v = some (kI (rAdvise σ n).1) ∧ hOut D G (rAdvise σ n) M') := by
  refine SpW_of (by decide +kernel) rfl rfl (Nat.le_of_ble_eq_true rfl) ?_
  intro X hC hCX hE hT hL0
  have hs := hw.1
  have hbool := hw.2.2.2.2.2.2
  obtain ⟨bC, bL, bG, -⟩ := hw.1.1
  have hx := kx_live
  have hx12 := kx12_live
  refine kwL_advise_0 hC hE ?_
  simp only [kbL_advise_0, mL_advise, kblk, kstp, kent, kpad, kget, kst1, kst2, kc2, cond_false, cond_true, kfv, kfit, kOkf, kputv, kputD, kputG, kcpy, kcat, kRR, kNN, true_and, and_true, if_true, if_false, if_pos, Nat.reduceAdd, Nat.reduceEqDiff, Nat.reduceLeDiff, Nat.reduceLT, reduceIte, Prod.mk.injEq, eq_self, false_and, and_false, reduceCtorEq, Nat.reduceSub, List.reverse_cons, List.reverse_nil, List.nil_append, List.cons_append, Option.toList_some, Option.toList_none, not_true_eq_false, not_false_eq_true]
  refine KW_callVX hC hCX (by decide +kernel) kl8_74 (by decide) ((s_advise hr hs hbool hG n)) rfl rfl (Nat.le_of_ble_eq_true rfl) rfl hx (by simp [kOkL, kOk, hx, hx12]) (by simp [kOkS, kOk, hx, hx12]) (Nat.le_of_ble_eq_true rfl) (Nat.le_of_ble_eq_true rfl) (Nat.le_of_ble_eq_true rfl) ?_ ?_
  · rintro v M' ⟨⟨c1, rfl⟩, hp⟩
    have re : rAdvise σ n = (0, tAdv σ n (tL σ) 0 (-1) 200, σ) := by unfold rAdvise; rw [if_pos c1]
    obtain ⟨D1, rfl, hr1, ho1⟩ := hp
    refine kwL_advise_7 hC hE ?_
    simp only [kbL_advise_7, mL_advise, kblk, kstp, kent, kpad, kget, kst1, kst2, kc2, cond_false, cond_true, kfv, kfit, kOkf, kputv, kputD, kputG, kcpy, kcat, kRR, kNN, true_and, and_true, if_true, if_false, if_pos, Nat.reduceAdd, Nat.reduceEqDiff, Nat.reduceLeDiff, Nat.reduceLT, reduceIte, Prod.mk.injEq, eq_self, false_and, and_false, reduceCtorEq, Nat.reduceSub, List.reverse_cons, List.reverse_nil, List.nil_append, List.cons_append, Option.toList_some, Option.toList_none, not_true_eq_false, not_false_eq_true, hx12, cl0]
    refine ⟨vp_in_nI (show 0 < 1 by decide) (by decide), ?_⟩
    refine KW_blk hC hE [(.iconst 0, 1, (0, 0, 0), 0, 0), (.ireturn, 1, (0, 0, 0), 0, 0)] _ _ _ _ _ _ (by decide +kernel) ?_
    simp only [kblk, kstp, kent, kpad, kget, kst1, kst2, kc2, cond_false, cond_true, kfv, kfit, kOkf, kputv, kputD, kputG, kcpy, kcat, kRR, kNN, true_and, and_true, if_true, if_false, if_pos, Nat.reduceAdd, Nat.reduceEqDiff, Nat.reduceLeDiff, Nat.reduceLT, reduceIte, Prod.mk.injEq, eq_self, false_and, and_false, reduceCtorEq, Nat.reduceSub, List.reverse_cons, List.reverse_nil, List.nil_append, List.cons_append, Option.toList_some, Option.toList_none, not_true_eq_false, not_false_eq_true, kblk, kstp, mL_advise]
    exact ⟨⟨by rw [re], hOut.ret hr1 ho1 re⟩, trivial, by decide, by decide⟩
  · rintro E M' ⟨⟨rfl, c1⟩, rfl⟩
    have re : rAdvise σ n = (1, 0, σ) := by unfold rAdvise; rw [if_neg c1]
    exact KThw_catch hC hCX hE hT (a := 3) (h := 12) (n := 1) (v := 1) (by decide +kernel) (by decide) (Or.inl ⟨3, rfl, by decide +kernel, by decide +kernel, by decide +kernel⟩) (by decide) ⟨⟨by rw [re], hOut.thr hr re (by decide)⟩, trivial, by decide, by decide⟩
set_option maxRecDepth 100000 in
theorem kcwL_needs : Cond.codeWith mL_needs.1 mL_needs.2.1 mL_needs.2.2.1 mL_needs.2.2.2.1 [(0, 10, 13, 13)] ∈ kGW := kGW_in (by decide +kernel) (by decide +kernel)
theorem l_needs (hr : kRep 0 D σ) {b0 h0 : Nat} (hw : kWf0 b0 h0 0 h0 σ) (hG : tG σ ≤ 90) (c n : Int32) : SpW mL_needs [(0, 10, 13, 13)] 1 6 [kR (some (5, 9, 0)), kI c, kI n, kR (some (12, 9, 0))] (km D G) (fun v M' => v = some (kI (rNeeds σ c n).1) ∧ hOut D G (rNeeds σ c n) M') := by
  refine SpW_of (by decide +kernel) rfl rfl (Nat.le_of_ble_eq_true rfl) ?_
  intro X hC hCX hE hT hL0
  have hs := hw.1
  have hbool := hw.2.2.2.2.2.2
  obtain ⟨bC, bL, bG, -⟩ := hw.1.1
  have hx := kx_live
  have hx12 := kx12_live
  refine kwL_needs_0 hC hE ?_
  simp only [kbL_needs_0, mL_needs, kblk, kstp, kent, kpad, kget, kst1, kst2, kc2, cond_false, cond_true, kfv, kfit, kOkf, kputv, kputD, kputG, kcpy, kcat, kRR, kNN, true_and, and_true, if_true, if_false, if_pos, Nat.reduceAdd, Nat.reduceEqDiff, Nat.reduceLeDiff, Nat.reduceLT, reduceIte, Prod.mk.injEq, eq_self, false_and, and_false, reduceCtorEq, Nat.reduceSub, List.reverse_cons, List.reverse_nil, List.nil_append, List.cons_append, Option.toList_some, Option.toList_none, not_true_eq_false, not_false_eq_true]
  refine KW_callVX hC hCX (by decide +kernel) kl8_77 (by decide) ((s_needs hr hs hbool c n)) rfl rfl (Nat.le_of_ble_eq_true rfl) rfl hx (by simp [kOkL, kOk, hx, hx12]) (by simp [kOkS, kOk, hx, hx12]) (Nat.le_of_ble_eq_true rfl) (Nat.le_of_ble_eq_true rfl) (Nat.le_of_ble_eq_true rfl) ?_ ?_
  · rintro v M' ⟨⟨k, k1, k2, rfl, c1, rfl⟩, hp⟩
    have re : rNeeds σ c (nI k) = (0, tNeeds σ c k (tC σ + 1) 0, σ) := by unfold rNeeds; rw [if_pos ⟨c1, rng1 (n := 100) k1 k2 (by decide)⟩, nI_clamp (by omega)]
    obtain ⟨D1, rfl, hr1, ho1⟩ := hp
    refine kwL_needs_8 hC hE ?_
    simp only [kbL_needs_8, mL_needs, kblk, kstp, kent, kpad, kget, kst1, kst2, kc2, cond_false, cond_true, kfv, kfit, kOkf, kputv, kputD, kputG, kcpy, kcat, kRR, kNN, true_and, and_true, if_true, if_false, if_pos, Nat.reduceAdd, Nat.reduceEqDiff, Nat.reduceLeDiff, Nat.reduceLT, reduceIte, Prod.mk.injEq, eq_self, false_and, and_false, reduceCtorEq, Nat.reduceSub, List.reverse_cons, List.reverse_nil, List.nil_append, List.cons_append, Option.toList_some, Option.toList_none, not_true_eq_false, not_false_eq_true, hx12, cl0]
    refine ⟨vp_in_nI (show 0 < 1 by decide) (by decide), ?_⟩
    refine KW_blk hC hE [(.iconst 0, 1, (0, 0, 0), 0, 0), (.ireturn, 1, (0, 0, 0), 0, 0)] _ _ _ _ _ _ (by decide +kernel) ?_
    simp only [kblk, kstp, kent, kpad, kget, kst1, kst2, kc2, cond_false, cond_true, kfv, kfit, kOkf, kputv, kputD, kputG, kcpy, kcat, kRR, kNN, true_and, and_true, if_true, if_false, if_pos, Nat.reduceAdd, Nat.reduceEqDiff, Nat.reduceLeDiff, Nat.reduceLT, reduceIte, Prod.mk.injEq, eq_self, false_and, and_false, reduceCtorEq, Nat.reduceSub, List.reverse_cons, List.reverse_nil, List.nil_append, List.cons_append, Option.toList_some, Option.toList_none, not_true_eq_false, not_false_eq_true, kblk, kstp, mL_needs]
    exact ⟨⟨by rw [re], hOut.ret hr1 ho1 re⟩, trivial, by decide, by decide⟩
  · rintro E M' ⟨⟨rfl, c1⟩, rfl⟩
    have re : rNeeds σ c n = (1, 0, σ) := by unfold rNeeds; rw [if_neg c1]
    exact KThw_catch hC hCX hE hT (a := 4) (h := 13) (n := 1) (v := 1) (by decide +kernel) (by decide) (Or.inr ⟨by decide +kernel, by decide +kernel, by decide +kernel⟩) (by decide) ⟨⟨by rw [re], hOut.thr hr re (by decide)⟩, trivial, by decide, by decide⟩
end HELPERS

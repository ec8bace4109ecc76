/-! Lift: the valley. -/
section ACTS3
variable {D : KI → Nat → Int32} {G : KI → Nat → Int64} {L : Nat} {σ : KT}
theorem kput_ap {α : Type} {f : KI → Nat → α} {i a : KI} {j b : Nat} {v : α} : kput f i j v a b = if a = i ∧ b = j then v else f a b := rfl
theorem kN_shed1 (h : L < 2) : kN8 L (0 + 1) = 20 := kN_shed h
theorem s_exchange (hL : L < 2) (hr : kRep L D σ) (hs : kS σ) : SpQ mX3_exchangeAtValley 0 0 [kR (some (3, L, 0))] (km D G) (fun v M' => v = none ∧ kTo L D G (tExch σ) M') := by
  refine SpQ_of (own := 3) (ini := false) (by decide +kernel) rfl (by decide) (Nat.le_of_ble_eq_true rfl) ?_
  intro X hC hE hL0
  have hb := hs.1
  have hb1 := hb.1
  have hlive : kLive (3, L, 0) := ⟨hL, rfl⟩
  have hlive9 : kLive (9, L, 0) := ⟨hL, rfl⟩
  have hlv4 : kLive (4, L, 0) := ⟨hL, by omega⟩
  have h9 := hr.old.2.1 9 (by decide) (by decide)
  have hrow := hr.old.2.2.2.2.2.2.1
  have fin : ∀ (ls : KL) (M' : KM), kTo L D G (tExch σ) M' → KW X 95 ls [] M' 0 0 := by
    intro ls M' h
    refine kwX3_exchangeAtValley_95 hC hE ?_
    simp only [kbX3_exchangeAtValley_95, mX3_exchangeAtValley, kblk, kstp, kent, kpad, kget, kst1, kst2, kc2, cond_false, cond_true, kfv, kfit, kOkf, kputv, kputD, kputG, kcpy, kcat, kRR, kNN, true_and, and_true, if_true, if_false, if_pos, Nat.reduceAdd, Nat.reduceEqDiff, Nat.reduceLeDiff, Nat.reduceLT, reduceIte, Prod.mk.injEq, eq_self, false_and, and_false, reduceCtorEq, Nat.reduceSub, List.reverse_cons, List.reverse_nil, List.nil_append, List.cons_append, Option.toList_some, Option.toList_none, not_true_eq_false, not_false_eq_true]
    exact ⟨⟨rfl, h⟩, trivial, Nat.le_refl _, Nat.le_refl _⟩
  have hx := chairAt_spec hb (p := 0)
  refine kwX3_exchangeAtValley_0 hC hE ?_
  simp only [kbX3_exchangeAtValley_0, mX3_exchangeAtValley, kblk, kstp, kent, kpad, kget, kst1, kst2, kc2, cond_false, cond_true, kfv, kfit, kOkf, kputv, kputD, kputG, kcpy, kcat, kRR, kNN, true_and, and_true, if_true, if_false, if_pos, Nat.reduceAdd, Nat.reduceEqDiff, Nat.reduceLeDiff, Nat.reduceLT, reduceIte, Prod.mk.injEq, eq_self, false_and, and_false, reduceCtorEq, Nat.reduceSub, List.reverse_cons, List.reverse_nil, List.nil_append, List.cons_append, Option.toList_some, Option.toList_none, not_true_eq_false, not_false_eq_true]
  refine KW_callV hC (by decide +kernel) kl3_159 (by decide) ((s_chairAt hL hr hb 0)) rfl rfl (Nat.le_of_ble_eq_true rfl) rfl hlive (by simp [kOkL, kOk, hlive]) (by simp [kOkS]) (Nat.le_of_ble_eq_true rfl) (Nat.le_of_ble_eq_true rfl) (Nat.le_of_ble_eq_true rfl) ?_
  rintro v M' ⟨rfl, rfl⟩
  refine kwX3_exchangeAtValley_5 hC hE ?_
  simp only [kbX3_exchangeAtValley_5, mX3_exchangeAtValley, kblk, kstp, kent, kpad, kget, kst1, kst2, kc2, cond_false, cond_true, kfv, kfit, kOkf, kputv, kputD, kputG, kcpy, kcat, kRR, kNN, true_and, and_true, if_true, if_false, if_pos, Nat.reduceAdd, Nat.reduceEqDiff, Nat.reduceLeDiff, Nat.reduceLT, reduceIte, Prod.mk.injEq, eq_self, false_and, and_false, reduceCtorEq, Nat.reduceSub, List.reverse_cons, List.reverse_nil, List.nil_append, List.cons_append, Option.toList_some, Option.toList_none, not_true_eq_false, not_false_eq_true]
  refine KW_callV hC (by decide +kernel) kl3_174 (by decide) ((s_chairsOnRope hL hr)) rfl rfl (Nat.le_of_ble_eq_true rfl) rfl hlive (by simp [kOkL, kOk, hlive]) (by simp [kOkS]) (Nat.le_of_ble_eq_true rfl) (Nat.le_of_ble_eq_true rfl) (Nat.le_of_ble_eq_true rfl) ?_
  rintro v M' ⟨rfl, rfl⟩
  have second : ¬ (tZ σ 39 0 < tOnRope σ ∧ tChairAt σ 0 ≠ -1) → KW X 43 [some (kR (some (3, L, 0))), some (kI (tChairAt σ 0)), none] [] (km D G) 0 0 := by
    intro hn
    refine kwX3_exchangeAtValley_43 hC hE ?_
    simp only [kbX3_exchangeAtValley_43, mX3_exchangeAtValley, kblk, kstp, kent, kpad, kget, kst1, kst2, kc2, cond_false, cond_true, kfv, kfit, kOkf, kputv, kputD, kputG, kcpy, kcat, kRR, kNN, true_and, and_true, if_true, if_false, if_pos, Nat.reduceAdd, Nat.reduceEqDiff, Nat.reduceLeDiff, Nat.reduceLT, reduceIte, Prod.mk.injEq, eq_self, false_and, and_false, reduceCtorEq, Nat.reduceSub, List.reverse_cons, List.reverse_nil, List.nil_append, List.cons_append, Option.toList_some, Option.toList_none, not_true_eq_false, not_false_eq_true]
    refine KW_callV hC (by decide +kernel) kl3_174 (by decide) ((s_chairsOnRope hL hr)) rfl rfl (Nat.le_of_ble_eq_true rfl) rfl hlive (by simp [kOkL, kOk, hlive]) (by simp [kOkS]) (Nat.le_of_ble_eq_true rfl) (Nat.le_of_ble_eq_true rfl) (Nat.le_of_ble_eq_true rfl) ?_
    rintro v M' ⟨rfl, rfl⟩
    refine kwX3_exchangeAtValley_47 hC hE ?_
    simp only [kbX3_exchangeAtValley_47, mX3_exchangeAtValley, kblk, kstp, kent, kpad, kget, kst1, kst2, kc2, cond_false, cond_true, kfv, kfit, kOkf, kputv, kputD, kputG, kcpy, kcat, kRR, kNN, true_and, and_true, if_true, if_false, if_pos, Nat.reduceAdd, Nat.reduceEqDiff, Nat.reduceLeDiff, Nat.reduceLT, reduceIte, Prod.mk.injEq, eq_self, false_and, and_false, reduceCtorEq, Nat.reduceSub, List.reverse_cons, List.reverse_nil, List.nil_append, List.cons_append, Option.toList_some, Option.toList_none, not_true_eq_false, not_false_eq_true, hlive, h9]
    have stay : ¬ (tOnRope σ < tZ σ 39 0 ∧ tChairAt σ 0 = -1) → kTo L D G (tExch σ) (km D G) := by
      intro h2
      refine ⟨D, rfl, ?_, kOff.refl⟩
      unfold tExch
      rw [if_neg hn, if_neg h2]
      exact hr
    refine ⟨fun h => fin _ _ (stay fun z => absurd z.1 (Int32.not_lt.mpr h)), fun h => ?_⟩
    refine kwX3_exchangeAtValley_54 hC hE ?_
    simp only [kbX3_exchangeAtValley_54, mX3_exchangeAtValley, kblk, kstp, kent, kpad, kget, kst1, kst2, kc2, cond_false, cond_true, kfv, kfit, kOkf, kputv, kputD, kputG, kcpy, kcat, kRR, kNN, true_and, and_true, if_true, if_false, if_pos, Nat.reduceAdd, Nat.reduceEqDiff, Nat.reduceLeDiff, Nat.reduceLT, reduceIte, Prod.mk.injEq, eq_self, false_and, and_false, reduceCtorEq, Nat.reduceSub, List.reverse_cons, List.reverse_nil, List.nil_append, List.cons_append, Option.toList_some, Option.toList_none, not_true_eq_false, not_false_eq_true]
    refine ⟨fun h2 => fin _ _ (stay fun z => absurd z.2 h2), fun h2 => ?_⟩
    refine kwX3_exchangeAtValley_59 hC hE ?_
    simp only [kbX3_exchangeAtValley_59, mX3_exchangeAtValley, kblk, kstp, kent, kpad, kget, kst1, kst2, kc2, cond_false, cond_true, kfv, kfit, kOkf, kputv, kputD, kputG, kcpy, kcat, kRR, kNN, true_and, and_true, if_true, if_false, if_pos, Nat.reduceAdd, Nat.reduceEqDiff, Nat.reduceLeDiff, Nat.reduceLT, reduceIte, Prod.mk.injEq, eq_self, false_and, and_false, reduceCtorEq, Nat.reduceSub, List.reverse_cons, List.reverse_nil, List.nil_append, List.cons_append, Option.toList_some, Option.toList_none, not_true_eq_false, not_false_eq_true, hlive, hlv4, hrow.1]
    have hc12 : tOnRope σ < tZ σ 39 0 ∧ tChairAt σ 0 = -1 := ⟨Int32.not_le.mp h, h2⟩
    cases e : tS σ with
    | nil =>
      refine ⟨fun _ => fin _ _ ⟨D, rfl, ?_, kOff.refl⟩, fun h3 => absurd (by simp [nI]) h3⟩
      unfold tExch
      rw [if_neg hn, if_pos hc12, e]
      exact hr
    | cons c r =>
      have hlen := hs.slen
      have hc : c < tC σ := hb.2.2.2.1 c (by rw [e]; simp)
      have hc20 : c < 20 := by omega
      have hlc : kLive (0, L, c) := ⟨hL, hc20⟩
      have hlen2 : (c :: r).length ≤ 20 := by rw [← e]; omega
      refine ⟨fun h3 => absurd h3 ?_, fun h3 => ?_⟩
      · exact nI_nle (by simp) (by omega)
      rw [e] at hrow
      refine kwX3_exchangeAtValley_69 hC hE ?_
      simp only [kbX3_exchangeAtValley_69, mX3_exchangeAtValley, kblk, kstp, kent, kpad, kget, kst1, kst2, kc2, cond_false, cond_true, kfv, kfit, kOkf, kputv, kputD, kputG, kcpy, kcat, kRR, kNN, true_and, and_true, if_true, if_false, if_pos, Nat.reduceAdd, Nat.reduceEqDiff, Nat.reduceLeDiff, Nat.reduceLT, reduceIte, Prod.mk.injEq, eq_self, false_and, and_false, reduceCtorEq, Nat.reduceSub, List.reverse_cons, List.reverse_nil, List.nil_append, List.cons_append, Option.toList_some, Option.toList_none, not_true_eq_false, not_false_eq_true, hlive]
      refine KW_callV hC (by decide +kernel) kl3_180 (by decide) ((s_Row_first hL (by omega) hrow (by rw [kN_shed1 hL]; omega) (by omega))) rfl rfl (Nat.le_of_ble_eq_true rfl) rfl hlv4 (by simp [kOkL, kOk, hlive]) (by simp [kOkS]) (Nat.le_of_ble_eq_true rfl) (Nat.le_of_ble_eq_true rfl) (Nat.le_of_ble_eq_true rfl) ?_
      rintro v M' ⟨hv, rfl⟩
      replace hv : v = some (kI (nI c)) := hv
      subst hv
      refine kwX3_exchangeAtValley_76 hC hE ?_
      simp only [kbX3_exchangeAtValley_76, mX3_exchangeAtValley, kblk, kstp, kent, kpad, kget, kst1, kst2, kc2, cond_false, cond_true, kfv, kfit, kOkf, kputv, kputD, kputG, kcpy, kcat, kRR, kNN, true_and, and_true, if_true, if_false, if_pos, Nat.reduceAdd, Nat.reduceEqDiff, Nat.reduceLeDiff, Nat.reduceLT, reduceIte, Prod.mk.injEq, eq_self, false_and, and_false, reduceCtorEq, Nat.reduceSub, List.reverse_cons, List.reverse_nil, List.nil_append, List.cons_append, Option.toList_some, Option.toList_none, not_true_eq_false, not_false_eq_true, hlive]
      refine KW_callV hC (by decide +kernel) kl3_112 (by decide) ((s_Row_remove (n := c) hL (by omega) hrow (by rw [kN_shed1 hL]; omega) (by rw [kN_shed1 hL]; decide) (by omega) (fun x hx => by have := hb.2.2.2.1 x (by rw [e]; exact hx); omega))) rfl rfl (Nat.le_of_ble_eq_true rfl) rfl hlv4 (by simp [kOkL, kOk, hlive]) (by simp [kOkS]) (Nat.le_of_ble_eq_true rfl) (Nat.le_of_ble_eq_true rfl) (Nat.le_of_ble_eq_true rfl) ?_
      rintro v M' ⟨rfl, D', rfl, hr', ho⟩
      have hr2 := rep_shed hr ho hr'
      refine kwX3_exchangeAtValley_85 hC hE ?_
      simp only [kbX3_exchangeAtValley_85, mX3_exchangeAtValley, kblk, kstp, kent, kpad, kget, kst1, kst2, kc2, cond_false, cond_true, kfv, kfit, kOkf, kputv, kputD, kputG, kcpy, kcat, kRR, kNN, true_and, and_true, if_true, if_false, if_pos, Nat.reduceAdd, Nat.reduceEqDiff, Nat.reduceLeDiff, Nat.reduceLT, reduceIte, Prod.mk.injEq, eq_self, false_and, and_false, reduceCtorEq, Nat.reduceSub, List.reverse_cons, List.reverse_nil, List.nil_append, List.cons_append, Option.toList_some, Option.toList_none, not_true_eq_false, not_false_eq_true, hlive, hlive9, nI_clamp (show c < 2 ^ 31 by omega), hc20, hlc, true_or, or_true]
      refine ⟨vp_in_nI hc20 (by omega), ?_⟩
      refine fin _ _ ⟨_, rfl, ?_, kOff.put.trans (kOff.row ho)⟩
      unfold tExch
      rw [if_neg hn, if_pos hc12, e]
      exact rep_chair hr2 c 1 0 (by decide)
  refine kwX3_exchangeAtValley_10 hC hE ?_
  simp only [kbX3_exchangeAtValley_10, mX3_exchangeAtValley, kblk, kstp, kent, kpad, kget, kst1, kst2, kc2, cond_false, cond_true, kfv, kfit, kOkf, kputv, kputD, kputG, kcpy, kcat, kRR, kNN, true_and, and_true, if_true, if_false, if_pos, Nat.reduceAdd, Nat.reduceEqDiff, Nat.reduceLeDiff, Nat.reduceLT, reduceIte, Prod.mk.injEq, eq_self, false_and, and_false, reduceCtorEq, Nat.reduceSub, List.reverse_cons, List.reverse_nil, List.nil_append, List.cons_append, Option.toList_some, Option.toList_none, not_true_eq_false, not_false_eq_true, hlive, h9]
  refine ⟨fun h => second (fun z => absurd z.1 (Int32.not_lt.mpr h)), fun h => ?_⟩
  refine kwX3_exchangeAtValley_17 hC hE ?_
  simp only [kbX3_exchangeAtValley_17, mX3_exchangeAtValley, kblk, kstp, kent, kpad, kget, kst1, kst2, kc2, cond_false, cond_true, kfv, kfit, kOkf, kputv, kputD, kputG, kcpy, kcat, kRR, kNN, true_and, and_true, if_true, if_false, if_pos, Nat.reduceAdd, Nat.reduceEqDiff, Nat.reduceLeDiff, Nat.reduceLT, reduceIte, Prod.mk.injEq, eq_self, false_and, and_false, reduceCtorEq, Nat.reduceSub, List.reverse_cons, List.reverse_nil, List.nil_append, List.cons_append, Option.toList_some, Option.toList_none, not_true_eq_false, not_false_eq_true]
  refine ⟨fun h2 => second (fun z => z.2 h2), fun h2 => ?_⟩
  rcases hx with ⟨h1, -⟩ | ⟨c, hc, h3, h4, h5, h6⟩
  · exact absurd h1 h2
  have hc20 : c < 20 := by omega
  have hlc : kLive (0, L, c) := ⟨hL, hc20⟩
  have hlen := hs.slt hc (by rw [h6]; decide)
  rw [h3]
  refine kwX3_exchangeAtValley_22 hC hE ?_
  simp only [kbX3_exchangeAtValley_22, mX3_exchangeAtValley, kblk, kstp, kent, kpad, kget, kst1, kst2, kc2, cond_false, cond_true, kfv, kfit, kOkf, kputv, kputD, kputG, kcpy, kcat, kRR, kNN, true_and, and_true, if_true, if_false, if_pos, Nat.reduceAdd, Nat.reduceEqDiff, Nat.reduceLeDiff, Nat.reduceLT, reduceIte, Prod.mk.injEq, eq_self, false_and, and_false, reduceCtorEq, Nat.reduceSub, List.reverse_cons, List.reverse_nil, List.nil_append, List.cons_append, Option.toList_some, Option.toList_none, not_true_eq_false, not_false_eq_true, hlive, hlive9, nI_clamp (show c < 2 ^ 31 by omega), hc20, hlc, true_or, or_true]
  refine ⟨vp_in_nI hc20 (by omega), ?_⟩
  have hr1 := rep_chair hr c 1 (-1) (by decide)
  have hrow1 := hr1.old.2.2.2.2.2.2.1
  refine KW_callV hC (by decide +kernel) kl3_95 (by decide) ((s_Row_append (n := c) hL (by omega) hrow1 (by rw [kN_shed1 hL, tS_tset]; omega) (by rw [kN_shed1 hL]; decide))) rfl rfl (Nat.le_of_ble_eq_true rfl) rfl hlv4 (by simp [kOkL, kOk, hlive]) (by simp [kOkS]) (Nat.le_of_ble_eq_true rfl) (Nat.le_of_ble_eq_true rfl) (Nat.le_of_ble_eq_true rfl) ?_
  rintro v M' ⟨rfl, D', rfl, hr', ho⟩
  refine kwX3_exchangeAtValley_40 hC hE ?_
  simp only [kbX3_exchangeAtValley_40, mX3_exchangeAtValley, kblk, kstp, kent, kpad, kget, kst1, kst2, kc2, cond_false, cond_true, kfv, kfit, kOkf, kputv, kputD, kputG, kcpy, kcat, kRR, kNN, true_and, and_true, if_true, if_false, if_pos, Nat.reduceAdd, Nat.reduceEqDiff, Nat.reduceLeDiff, Nat.reduceLT, reduceIte, Prod.mk.injEq, eq_self, false_and, and_false, reduceCtorEq, Nat.reduceSub, List.reverse_cons, List.reverse_nil, List.nil_append, List.cons_append, Option.toList_some, Option.toList_none, not_true_eq_false, not_false_eq_true]
  refine fin _ _ ⟨_, rfl, ?_, (kOff.row ho).trans kOff.put⟩
  unfold tExch
  rw [if_pos ⟨Int32.not_le.mp h, h2⟩, h5]
  exact rep_shed hr1 ho hr'
theorem behind_nat {l : Nat} (hb : tL σ ≤ 4) (hl : l < tL σ) : ∃ b, b < tL σ ∧ behind σ (nI l) = nI b := by
  unfold behind
  rw [nI_1]
  by_cases hh : nI (l + 1) < nI (tL σ)
  · rw [if_pos hh]
    exact ⟨l + 1, nI_ltr (by omega) (by omega) hh, rfl⟩
  · rw [if_neg hh]
    exact ⟨0, by omega, rfl⟩
theorem s_groupToBoard (hL : L < 2) (hr : kRep L D σ) (hs : kS σ) (s : Int32) : SpQ mX3_groupToBoard 0 0 [kR (some (3, L, 0)), kI s] (km D G) (fun v M' => v = some (kI (tNext σ s)) ∧ M' = km D G) := by
  refine SpQ_of (own := 3) (ini := false) (by decide +kernel) rfl (by decide) (Nat.le_of_ble_eq_true rfl) ?_
  intro X hC hE hL0
  have hb := hs.1
  have hb2 := hb.2.1
  have hb3 := hb.2.2.1
  have hlive : kLive (3, L, 0) := ⟨hL, rfl⟩
  have hlive10 : kLive (10, L, 0) := ⟨hL, rfl⟩
  have hlive11 : kLive (11, L, 0) := ⟨hL, rfl⟩
  have c6 := hr.old.1.2.1
  have h10 := hr.old.2.1 10 (by decide) (by decide)
  have loop : ∀ (m i l : Nat) , i + m = tL σ → (0 < m → l < tL σ) → gtb σ s m (nI l) = tNext σ s → KW X 7 [some (kR (some (3, L, 0))), some (kI s), some (kI (nI l)), some (kI (nI i)), none] [] (km D G) 0 0 := by
    intro m
    induction m with
    | zero =>
      intro i l him hl he
      have hi : i = tL σ := by omega
      subst hi
      refine kwX3_groupToBoard_7 hC hE ?_
      simp only [kbX3_groupToBoard_7, mX3_groupToBoard, kblk, kstp, kent, kpad, kget, kst1, kst2, kc2, cond_false, cond_true, kfv, kfit, kOkf, kputv, kputD, kputG, kcpy, kcat, kRR, kNN, true_and, and_true, if_true, if_false, if_pos, Nat.reduceAdd, Nat.reduceEqDiff, Nat.reduceLeDiff, Nat.reduceLT, reduceIte, Prod.mk.injEq, eq_self, false_and, and_false, reduceCtorEq, Nat.reduceSub, List.reverse_cons, List.reverse_nil, List.nil_append, List.cons_append, Option.toList_some, Option.toList_none, not_true_eq_false, not_false_eq_true, hlive, c6]
      refine ⟨fun _ => ?_, fun h => absurd (nI_le (Nat.le_refl _) (by omega)) h⟩
      refine kwX3_groupToBoard_64 hC hE ?_
      simp only [kbX3_groupToBoard_64, mX3_groupToBoard, kblk, kstp, kent, kpad, kget, kst1, kst2, kc2, cond_false, cond_true, kfv, kfit, kOkf, kputv, kputD, kputG, kcpy, kcat, kRR, kNN, true_and, and_true, if_true, if_false, if_pos, Nat.reduceAdd, Nat.reduceEqDiff, Nat.reduceLeDiff, Nat.reduceLT, reduceIte, Prod.mk.injEq, eq_self, false_and, and_false, reduceCtorEq, Nat.reduceSub, List.reverse_cons, List.reverse_nil, List.nil_append, List.cons_append, Option.toList_some, Option.toList_none, not_true_eq_false, not_false_eq_true]
      exact ⟨⟨by rw [← he]; rfl, rfl⟩, trivial, Nat.le_refl _, Nat.le_refl _⟩
    | succ m ih =>
      intro i l him hl0 he
      have hl := hl0 (by omega)
      have hl4 : l < 4 := by omega
      have hll : kLive (2, L, l) := ⟨hL, hl4⟩
      have hlr : kLive (4, L, l + 1) := ⟨hL, by omega⟩
      have hq := hr.old.2.2.2.2.2.2.2 l hl
      have hql := hs.qlen hl
      have hN := kN_lane hL l
      obtain ⟨b, hbl, hbe⟩ := behind_nat hb2 hl
      simp only [gtb] at he
      rw [nI_clamp (by omega), hbe] at he
      have next : gtb σ s m (nI b) = tNext σ s → KW X 52 [some (kR (some (3, L, 0))), some (kI s), some (kI (nI l)), some (kI (nI i)), none] [] (km D G) 0 0 := by
        intro h
        refine kwX3_groupToBoard_52 hC hE ?_
        simp only [kbX3_groupToBoard_52, mX3_groupToBoard, kblk, kstp, kent, kpad, kget, kst1, kst2, kc2, cond_false, cond_true, kfv, kfit, kOkf, kputv, kputD, kputG, kcpy, kcat, kRR, kNN, true_and, and_true, if_true, if_false, if_pos, Nat.reduceAdd, Nat.reduceEqDiff, Nat.reduceLeDiff, Nat.reduceLT, reduceIte, Prod.mk.injEq, eq_self, false_and, and_false, reduceCtorEq, Nat.reduceSub, List.reverse_cons, List.reverse_nil, List.nil_append, List.cons_append, Option.toList_some, Option.toList_none, not_true_eq_false, not_false_eq_true]
        refine KW_callV hC (by decide +kernel) kl3_190 (by decide) ((s_laneBehind hL hr (nI l))) rfl rfl (Nat.le_of_ble_eq_true rfl) rfl hlive (by simp [kOkL, kOk, hlive]) (by simp [kOkS]) (Nat.le_of_ble_eq_true rfl) (Nat.le_of_ble_eq_true rfl) (Nat.le_of_ble_eq_true rfl) ?_
        rintro v M' ⟨rfl, rfl⟩
        rw [hbe]
        refine kwX3_groupToBoard_57 hC hE ?_
        simp only [kbX3_groupToBoard_57, mX3_groupToBoard, kblk, kstp, kent, kpad, kget, kst1, kst2, kc2, cond_false, cond_true, kfv, kfit, kOkf, kputv, kputD, kputG, kcpy, kcat, kRR, kNN, true_and, and_true, if_true, if_false, if_pos, Nat.reduceAdd, Nat.reduceEqDiff, Nat.reduceLeDiff, Nat.reduceLT, reduceIte, Prod.mk.injEq, eq_self, false_and, and_false, reduceCtorEq, Nat.reduceSub, List.reverse_cons, List.reverse_nil, List.nil_append, List.cons_append, Option.toList_some, Option.toList_none, not_true_eq_false, not_false_eq_true, nI_1]
        exact ih (i + 1) b (by omega) (fun _ => hbl) h
      refine kwX3_groupToBoard_7 hC hE ?_
      simp only [kbX3_groupToBoard_7, mX3_groupToBoard, kblk, kstp, kent, kpad, kget, kst1, kst2, kc2, cond_false, cond_true, kfv, kfit, kOkf, kputv, kputD, kputG, kcpy, kcat, kRR, kNN, true_and, and_true, if_true, if_false, if_pos, Nat.reduceAdd, Nat.reduceEqDiff, Nat.reduceLeDiff, Nat.reduceLT, reduceIte, Prod.mk.injEq, eq_self, false_and, and_false, reduceCtorEq, Nat.reduceSub, List.reverse_cons, List.reverse_nil, List.nil_append, List.cons_append, Option.toList_some, Option.toList_none, not_true_eq_false, not_false_eq_true, hlive, c6]
      refine ⟨fun h => absurd h (nI_ge (by omega) (by omega)), fun _ => ?_⟩
      refine kwX3_groupToBoard_15 hC hE ?_
      simp only [kbX3_groupToBoard_15, mX3_groupToBoard, kblk, kstp, kent, kpad, kget, kst1, kst2, kc2, cond_false, cond_true, kfv, kfit, kOkf, kputv, kputD, kputG, kcpy, kcat, kRR, kNN, true_and, and_true, if_true, if_false, if_pos, Nat.reduceAdd, Nat.reduceEqDiff, Nat.reduceLeDiff, Nat.reduceLT, reduceIte, Prod.mk.injEq, eq_self, false_and, and_false, reduceCtorEq, Nat.reduceSub, List.reverse_cons, List.reverse_nil, List.nil_append, List.cons_append, Option.toList_some, Option.toList_none, not_true_eq_false, not_false_eq_true, hlive, hlive11, nI_clamp (show l < 2 ^ 31 by omega), hl4, hll, true_or, or_true]
      refine ⟨vp_in_nI hl4 (by omega), ?_⟩
      refine KW_callV hC (by decide +kernel) kl3_180 (by decide) ((s_Row_first hL (by omega) hq (by rw [hN]; omega) (by omega))) rfl rfl (Nat.le_of_ble_eq_true rfl) rfl hlr (by simp [kOkL, kOk, hlive]) (by simp [kOkS]) (Nat.le_of_ble_eq_true rfl) (Nat.le_of_ble_eq_true rfl) (Nat.le_of_ble_eq_true rfl) ?_
      rintro v M' ⟨rfl, rfl⟩
      cases e : (tQ σ l).head? with
      | none =>
        rw [e] at he
        refine kwX3_groupToBoard_27 hC hE ?_
        simp only [kbX3_groupToBoard_27, mX3_groupToBoard, kblk, kstp, kent, kpad, kget, kst1, kst2, kc2, cond_false, cond_true, kfv, kfit, kOkf, kputv, kputD, kputG, kcpy, kcat, kRR, kNN, true_and, and_true, if_true, if_false, if_pos, Nat.reduceAdd, Nat.reduceEqDiff, Nat.reduceLeDiff, Nat.reduceLT, reduceIte, Prod.mk.injEq, eq_self, false_and, and_false, reduceCtorEq, Nat.reduceSub, List.reverse_cons, List.reverse_nil, List.nil_append, List.cons_append, Option.toList_some, Option.toList_none, not_true_eq_false, not_false_eq_true]
        refine ⟨fun _ => KW.le (by simp [kLE]) (next he), fun h => h.elim⟩
      | some g =>
        rw [e] at he
        have hg : g < tG σ := hb.2.2.2.2 l hl g (List.mem_of_head? e)
        have hg91 : g < 91 := by omega
        have hlg : kLive (1, L, g) := ⟨hL, hg91⟩
        have h0 := hr.old.2.2.2.1 g hg 0 (by decide)
        refine kwX3_groupToBoard_27 hC hE ?_
        simp only [kbX3_groupToBoard_27, mX3_groupToBoard, kblk, kstp, kent, kpad, kget, kst1, kst2, kc2, cond_false, cond_true, kfv, kfit, kOkf, kputv, kputD, kputG, kcpy, kcat, kRR, kNN, true_and, and_true, if_true, if_false, if_pos, Nat.reduceAdd, Nat.reduceEqDiff, Nat.reduceLeDiff, Nat.reduceLT, reduceIte, Prod.mk.injEq, eq_self, false_and, and_false, reduceCtorEq, Nat.reduceSub, List.reverse_cons, List.reverse_nil, List.nil_append, List.cons_append, Option.toList_some, Option.toList_none, not_true_eq_false, not_false_eq_true]
        refine ⟨fun h => absurd h (nI_m1 (by omega)), fun _ => ?_⟩
        refine kwX3_groupToBoard_35 hC hE ?_
        simp only [kbX3_groupToBoard_35, mX3_groupToBoard, kblk, kstp, kent, kpad, kget, kst1, kst2, kc2, cond_false, cond_true, kfv, kfit, kOkf, kputv, kputD, kputG, kcpy, kcat, kRR, kNN, true_and, and_true, if_true, if_false, if_pos, Nat.reduceAdd, Nat.reduceEqDiff, Nat.reduceLeDiff, Nat.reduceLT, reduceIte, Prod.mk.injEq, eq_self, false_and, and_false, reduceCtorEq, Nat.reduceSub, List.reverse_cons, List.reverse_nil, List.nil_append, List.cons_append, Option.toList_some, Option.toList_none, not_true_eq_false, not_false_eq_true, hlive, hlive10, nI_clamp (show g < 2 ^ 31 by omega), hg91, hlg, h0, true_or, or_true]
        simp only [] at he
        refine ⟨vp_in_nI hg91 (by omega), fun h => ?_, fun h => ?_⟩
        · rw [if_neg (Int32.not_le.mpr h)] at he
          exact KW.le (by simp [kLE]) (next he)
        · rw [if_pos (Int32.not_lt.mp h)] at he
          refine kwX3_groupToBoard_49 hC hE ?_
          simp only [kbX3_groupToBoard_49, mX3_groupToBoard, kblk, kstp, kent, kpad, kget, kst1, kst2, kc2, cond_false, cond_true, kfv, kfit, kOkf, kputv, kputD, kputG, kcpy, kcat, kRR, kNN, true_and, and_true, if_true, if_false, if_pos, Nat.reduceAdd, Nat.reduceEqDiff, Nat.reduceLeDiff, Nat.reduceLT, reduceIte, Prod.mk.injEq, eq_self, false_and, and_false, reduceCtorEq, Nat.reduceSub, List.reverse_cons, List.reverse_nil, List.nil_append, List.cons_append, Option.toList_some, Option.toList_none, not_true_eq_false, not_false_eq_true]
          exact ⟨⟨by rw [he], rfl⟩, trivial, Nat.le_refl _, Nat.le_refl _⟩
  obtain ⟨t, ht, ht2⟩ := hs.2.1
  rw [show 30 + 10 = 40 from rfl, ht] at h10
  refine kwX3_groupToBoard_0 hC hE ?_
  simp only [kbX3_groupToBoard_0, mX3_groupToBoard, kblk, kstp, kent, kpad, kget, kst1, kst2, kc2, cond_false, cond_true, kfv, kfit, kOkf, kputv, kputD, kputG, kcpy, kcat, kRR, kNN, true_and, and_true, if_true, if_false, if_pos, Nat.reduceAdd, Nat.reduceEqDiff, Nat.reduceLeDiff, Nat.reduceLT, reduceIte, Prod.mk.injEq, eq_self, false_and, and_false, reduceCtorEq, Nat.reduceSub, List.reverse_cons, List.reverse_nil, List.nil_append, List.cons_append, Option.toList_some, Option.toList_none, not_true_eq_false, not_false_eq_true, hlive, h10]
  exact loop (tL σ) 0 t (by omega) (fun _ => by omega) (by unfold tNext; rw [ht])
end ACTS3

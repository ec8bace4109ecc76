/-! Lift: boarding, loading, sending away. -/
section ACTS4
variable {D : KI → Nat → Int32} {G : KI → Nat → Int64} {L : Nat} {σ : KT}
theorem s_board (hL : L < 2) (hr : kRep L D σ) (hs : kS σ) {g c l : Nat} (hg : g < tG σ) (hc : c < tC σ) (hl : l < tL σ) (hz : tZ σ 13 g = nI l) : SpQ mX3_board 0 0 [kR (some (3, L, 0)), kI (nI g), kI (nI c)] (km D G) (fun v M' => v = none ∧ kTo L D G (boardT σ g c) M') := by
  refine SpQ_of (own := 3) (ini := false) (by decide +kernel) rfl (by decide) (Nat.le_of_ble_eq_true rfl) ?_
  intro X hC hE hL0
  have hb := hs.1
  have hb1 := hb.1
  have hb2 := hb.2.1
  have hb3 := hb.2.2.1
  have hlive : kLive (3, L, 0) := ⟨hL, rfl⟩
  have hlive9 : kLive (9, L, 0) := ⟨hL, rfl⟩
  have hlive10 : kLive (10, L, 0) := ⟨hL, rfl⟩
  have hlive11 : kLive (11, L, 0) := ⟨hL, rfl⟩
  have hg91 : g < 91 := by omega
  have hc20 : c < 20 := by omega
  have hl4 : l < 4 := by omega
  have hlg : kLive (1, L, g) := ⟨hL, hg91⟩
  have hlc : kLive (0, L, c) := ⟨hL, hc20⟩
  have hll : kLive (2, L, l) := ⟨hL, hl4⟩
  have h3 := hr.old.2.2.2.1 g hg 3 (by decide)
  rw [show 10 + 3 = 13 from rfl, hz] at h3
  have h0 := hr.old.2.2.2.1 g hg 0 (by decide)
  have h2 := hr.old.2.2.2.2.1 l hl 2 (by decide) (by decide)
  have e1 : ∀ v, kput D (2, L, l) 2 v (1, L, g) 3 = nI l := fun v => by simp [kput, h3]
  have hcg := nI_clamp (show g < 2 ^ 31 by omega)
  have hcc := nI_clamp (show c < 2 ^ 31 by omega)
  have hcl := nI_clamp (show l < 2 ^ 31 by omega)
  refine kwX3_board_0 hC hE ?_
  simp only [kbX3_board_0, mX3_board, kblk, kstp, kent, kpad, kget, kst1, kst2, kc2, cond_false, cond_true, kfv, kfit, kOkf, kputv, kputD, kputG, kcpy, kcat, kRR, kNN, true_and, and_true, if_true, if_false, if_pos, Nat.reduceAdd, Nat.reduceEqDiff, Nat.reduceLeDiff, Nat.reduceLT, reduceIte, Prod.mk.injEq, eq_self, false_and, and_false, reduceCtorEq, Nat.reduceSub, List.reverse_cons, List.reverse_nil, List.nil_append, List.cons_append, Option.toList_some, Option.toList_none, not_true_eq_false, not_false_eq_true, hlive, hlive10, hlive11, hcg, hcl, hg91, hl4, hlg, hll, h3, h0, h2, e1, true_or, or_true]
  refine ⟨vp_in_nI hg91 (by omega), vp_in_nI hl4 (by omega), ?_⟩
  have hr1 := rep_lane hr l 2 (tZ σ 22 l + tZ σ 10 g) (by decide) (by decide)
  refine KW_callV hC (by decide +kernel) kl3_190 (by decide) ((s_laneBehind hL hr1 (nI l))) rfl rfl (Nat.le_of_ble_eq_true rfl) rfl hlive (by simp [kOkL, kOk, hlive, hlg]) (by simp [kOkS, kOk, hlive]) (Nat.le_of_ble_eq_true rfl) (Nat.le_of_ble_eq_true rfl) (Nat.le_of_ble_eq_true rfl) ?_
  rintro v M' ⟨rfl, rfl⟩
  refine kwX3_board_37 hC hE ?_
  simp only [kbX3_board_37, mX3_board, kblk, kstp, kent, kpad, kget, kst1, kst2, kc2, cond_false, cond_true, kfv, kfit, kOkf, kputv, kputD, kputG, kcpy, kcat, kRR, kNN, true_and, and_true, if_true, if_false, if_pos, Nat.reduceAdd, Nat.reduceEqDiff, Nat.reduceLeDiff, Nat.reduceLT, reduceIte, Prod.mk.injEq, eq_self, false_and, and_false, reduceCtorEq, Nat.reduceSub, List.reverse_cons, List.reverse_nil, List.nil_append, List.cons_append, Option.toList_some, Option.toList_none, not_true_eq_false, not_false_eq_true, hlive]
  have hr2 := rep_scal hr1 10 (behind σ (nI l)) (by decide) (by decide)
  have hs1 : kS (tset σ 22 l (tZ σ 22 l + tZ σ 10 g)) := hs.setf (by decide) (by decide) (by decide)
  have hs2 := hs1.turn hl
  refine KW_callV hC (by decide +kernel) kl3_115 (by decide) ((s_takeOut hL hr2 hs2 hg)) rfl rfl (Nat.le_of_ble_eq_true rfl) rfl hlive (by simp [kOkL, kOk, hlive, hlg]) (by simp [kOkS]) (Nat.le_of_ble_eq_true rfl) (Nat.le_of_ble_eq_true rfl) (Nat.le_of_ble_eq_true rfl) ?_
  rintro v M' ⟨rfl, D', rfl, hr', ho⟩
  have q0 := hr'.old.2.2.2.1 g (by rw [tG_takeOut]; exact hg) 0 (by decide)
  have q2 := hr'.old.2.2.1 c (by rw [tC_takeOut]; exact hc) 2 (by decide)
  have q3 := hr'.old.2.2.1 c (by rw [tC_takeOut]; exact hc) 3 (by decide)
  have q4 := hr'.old.2.2.1 c (by rw [tC_takeOut]; exact hc) 4 (by decide)
  have a1 : kput (kput D' (1, L, g) 2 1) (1, L, g) 4 (nI c) (0, L, c) 2 = D' (0, L, c) 2 := by simp [kput]
  have a2 : kput (kput D' (1, L, g) 2 1) (1, L, g) 4 (nI c) (1, L, g) 0 = D' (1, L, g) 0 := by simp [kput]
  have a3 : ∀ v, kput (kput (kput D' (1, L, g) 2 1) (1, L, g) 4 (nI c)) (0, L, c) 2 v (0, L, c) 3 = D' (0, L, c) 3 := fun v => by simp [kput]
  have a4 : ∀ v w, kput (kput (kput (kput D' (1, L, g) 2 1) (1, L, g) 4 (nI c)) (0, L, c) 2 v) (0, L, c) 3 w (0, L, c) 4 = D' (0, L, c) 4 := fun v w => by simp [kput]
  have a5 : ∀ v w, kput (kput (kput (kput D' (1, L, g) 2 1) (1, L, g) 4 (nI c)) (0, L, c) 2 v) (0, L, c) 3 w (1, L, g) 0 = D' (1, L, g) 0 := fun v w => by simp [kput]
  refine kwX3_board_45 hC hE ?_
  simp only [kbX3_board_45, mX3_board, kblk, kstp, kent, kpad, kget, kst1, kst2, kc2, cond_false, cond_true, kfv, kfit, kOkf, kputv, kputD, kputG, kcpy, kcat, kRR, kNN, true_and, and_true, if_true, if_false, if_pos, Nat.reduceAdd, Nat.reduceEqDiff, Nat.reduceLeDiff, Nat.reduceLT, reduceIte, Prod.mk.injEq, eq_self, false_and, and_false, reduceCtorEq, Nat.reduceSub, List.reverse_cons, List.reverse_nil, List.nil_append, List.cons_append, Option.toList_some, Option.toList_none, not_true_eq_false, not_false_eq_true, hlive, hlive9, hcc, hc20, hlc, hlg, a1, a2, a3, a4, a5, true_or, or_true]
  refine ⟨vp_in_nI hc20 (by omega), vp_in_nI hc20 (by omega), vp_in_nI hc20 (by omega), ⟨rfl, _, rfl, ?_, kOff.put.trans (kOff.put.trans (kOff.put.trans (kOff.put.trans (kOff.put.trans (ho.trans (kOff.put.trans kOff.put))))))⟩, trivial, Nat.le_refl _, Nat.le_refl _⟩
  have hr6 := rep_chair (rep_chair (rep_chair (rep_group (rep_group hr' g 2 1 (by decide)) g 4 (nI c) (by decide)) c 2 (D' (0, L, c) 2 + D' (1, L, g) 0) (by decide)) c 3 (D' (0, L, c) 3 + 1) (by decide)) c 4 (D' (0, L, c) 4 + D' (1, L, g) 0) (by decide)
  have e : boardT σ g c = tset (tset (tset (tset (tset (takeOut (tset (tset σ 22 l (tZ σ 22 l + tZ σ 10 g)) 40 0 (behind σ (nI l))) g) 12 g 1) 14 g (nI c)) 2 c (D' (0, L, c) 2 + D' (1, L, g) 0)) 3 c (D' (0, L, c) 3 + 1)) 4 c (D' (0, L, c) 4 + D' (1, L, g) 0) := by
    rw [q0, q2, q3, q4]
    simp only [boardT, hz, hcl, tZ_tset, tQ_tset, tS_tset, tC_tset, tL_tset, tG_tset, tZ_tsetQ, tQ_tsetQ, tS_tsetQ, tC_tsetQ, tL_tsetQ, tG_tsetQ, tZ_tsetS, tQ_tsetS, tS_tsetS, tC_tsetS, tL_tsetS, tG_tsetS, tZ_tMod, tQ_tMod, tS_tMod, tC_tMod, tL_tMod, tG_tMod, tZ_tcnt, tQ_tcnt, tS_tcnt, tC_tcnt, tL_tcnt, tG_tcnt, tZ_takeOut, zup, Nat.reduceAdd, Nat.reduceEqDiff, false_and, if_false, and_true, and_false]
  rw [e]
  exact hr6
theorem s_load (hL : L < 2) (hr : kRep L D σ) (hs : kS σ) : SpQ mX3_loadAtValley 0 0 [kR (some (3, L, 0))] (km D G) (fun v M' => v = none ∧ kTo L D G (tLoad σ) M') := by
  refine SpQ_of (own := 3) (ini := false) (by decide +kernel) rfl (by decide) (Nat.le_of_ble_eq_true rfl) ?_
  intro X hC hE hL0
  have hb := hs.1
  have hb1 := hb.1
  have hlive : kLive (3, L, 0) := ⟨hL, rfl⟩
  have hlive9 : kLive (9, L, 0) := ⟨hL, rfl⟩
  refine kwX3_loadAtValley_0 hC hE ?_
  simp only [kbX3_loadAtValley_0, mX3_loadAtValley, kblk, kstp, kent, kpad, kget, kst1, kst2, kc2, cond_false, cond_true, kfv, kfit, kOkf, kputv, kputD, kputG, kcpy, kcat, kRR, kNN, true_and, and_true, if_true, if_false, if_pos, Nat.reduceAdd, Nat.reduceEqDiff, Nat.reduceLeDiff, Nat.reduceLT, reduceIte, Prod.mk.injEq, eq_self, false_and, and_false, reduceCtorEq, Nat.reduceSub, List.reverse_cons, List.reverse_nil, List.nil_append, List.cons_append, Option.toList_some, Option.toList_none, not_true_eq_false, not_false_eq_true]
  refine KW_callV hC (by decide +kernel) kl3_159 (by decide) ((s_chairAt hL hr hb 0)) rfl rfl (Nat.le_of_ble_eq_true rfl) rfl hlive (by simp [kOkL, kOk, hlive]) (by simp [kOkS]) (Nat.le_of_ble_eq_true rfl) (Nat.le_of_ble_eq_true rfl) (Nat.le_of_ble_eq_true rfl) ?_
  rintro v M' ⟨rfl, rfl⟩
  refine kwX3_loadAtValley_5 hC hE ?_
  simp only [kbX3_loadAtValley_5, mX3_loadAtValley, kblk, kstp, kent, kpad, kget, kst1, kst2, kc2, cond_false, cond_true, kfv, kfit, kOkf, kputv, kputD, kputG, kcpy, kcat, kRR, kNN, true_and, and_true, if_true, if_false, if_pos, Nat.reduceAdd, Nat.reduceEqDiff, Nat.reduceLeDiff, Nat.reduceLT, reduceIte, Prod.mk.injEq, eq_self, false_and, and_false, reduceCtorEq, Nat.reduceSub, List.reverse_cons, List.reverse_nil, List.nil_append, List.cons_append, Option.toList_some, Option.toList_none, not_true_eq_false, not_false_eq_true]
  rcases chairAt_spec hb (p := 0) with ⟨h1, -⟩ | ⟨c, hc, h2, h3, h4, h5⟩
  · refine ⟨fun h => absurd h1 h, fun h => ?_⟩
    refine kwX3_loadAtValley_11 hC hE ?_
    simp only [kbX3_loadAtValley_11, mX3_loadAtValley, kblk, kstp, kent, kpad, kget, kst1, kst2, kc2, cond_false, cond_true, kfv, kfit, kOkf, kputv, kputD, kputG, kcpy, kcat, kRR, kNN, true_and, and_true, if_true, if_false, if_pos, Nat.reduceAdd, Nat.reduceEqDiff, Nat.reduceLeDiff, Nat.reduceLT, reduceIte, Prod.mk.injEq, eq_self, false_and, and_false, reduceCtorEq, Nat.reduceSub, List.reverse_cons, List.reverse_nil, List.nil_append, List.cons_append, Option.toList_some, Option.toList_none, not_true_eq_false, not_false_eq_true]
    exact ⟨⟨rfl, _, rfl, by unfold tLoad; rw [if_pos h1]; exact hr, kOff.refl⟩, trivial, Nat.le_refl _, Nat.le_refl _⟩
  · have hc20 : c < 20 := by omega
    have hlc : kLive (0, L, c) := ⟨hL, hc20⟩
    have hcc := nI_clamp (show c < 2 ^ 31 by omega)
    have hload : tLoad σ = tLoadAt σ c := by
      unfold tLoad
      rw [if_neg h3, h4]
    refine ⟨fun _ => ?_, fun h => absurd h h3⟩
    rw [h2]
    have fin : ∀ (D' : KI → Nat → Int32) (σ' : KT) (n : Nat), kRep L D' σ' → kOff L D' D → loadT c 6 σ 0 = (σ', n) → n ≤ 6 → KW X 64 [some (kR (some (3, L, 0))), some (kI (nI c)), some (kI (nI n)), none] [] (km D' G) 0 0 := by
      intro D' σ' n hr' ho he hn
      have e12 := hr'.old.2.1 13 (by decide) (by decide)
      refine kwX3_loadAtValley_64 hC hE ?_
      simp only [kbX3_loadAtValley_64, mX3_loadAtValley, kblk, kstp, kent, kpad, kget, kst1, kst2, kc2, cond_false, cond_true, kfv, kfit, kOkf, kputv, kputD, kputG, kcpy, kcat, kRR, kNN, true_and, and_true, if_true, if_false, if_pos, Nat.reduceAdd, Nat.reduceEqDiff, Nat.reduceLeDiff, Nat.reduceLT, reduceIte, Prod.mk.injEq, eq_self, false_and, and_false, reduceCtorEq, Nat.reduceSub, List.reverse_cons, List.reverse_nil, List.nil_append, List.cons_append, Option.toList_some, Option.toList_none, not_true_eq_false, not_false_eq_true]
      refine ⟨fun h => ?_, fun h => ?_⟩
      · have hn0 : n = 0 := by
          rcases Nat.eq_zero_or_pos n with h6 | h6
          · exact h6
          · exact absurd h (nI_nle h6 (by omega))
        subst hn0
        refine kwX3_loadAtValley_78 hC hE ?_
        simp only [kbX3_loadAtValley_78, mX3_loadAtValley, kblk, kstp, kent, kpad, kget, kst1, kst2, kc2, cond_false, cond_true, kfv, kfit, kOkf, kputv, kputD, kputG, kcpy, kcat, kRR, kNN, true_and, and_true, if_true, if_false, if_pos, Nat.reduceAdd, Nat.reduceEqDiff, Nat.reduceLeDiff, Nat.reduceLT, reduceIte, Prod.mk.injEq, eq_self, false_and, and_false, reduceCtorEq, Nat.reduceSub, List.reverse_cons, List.reverse_nil, List.nil_append, List.cons_append, Option.toList_some, Option.toList_none, not_true_eq_false, not_false_eq_true]
        refine ⟨⟨rfl, _, rfl, ?_, ho⟩, trivial, Nat.le_refl _, Nat.le_refl _⟩
        rw [hload]
        unfold tLoadAt
        rw [he, if_pos rfl]
        exact hr'
      · have hn0 : ¬ n = 0 := fun z => h (by subst z; decide)
        refine kwX3_loadAtValley_68 hC hE ?_
        simp only [kbX3_loadAtValley_68, mX3_loadAtValley, kblk, kstp, kent, kpad, kget, kst1, kst2, kc2, cond_false, cond_true, kfv, kfit, kOkf, kputv, kputD, kputG, kcpy, kcat, kRR, kNN, true_and, and_true, if_true, if_false, if_pos, Nat.reduceAdd, Nat.reduceEqDiff, Nat.reduceLeDiff, Nat.reduceLT, reduceIte, Prod.mk.injEq, eq_self, false_and, and_false, reduceCtorEq, Nat.reduceSub, List.reverse_cons, List.reverse_nil, List.nil_append, List.cons_append, Option.toList_some, Option.toList_none, not_true_eq_false, not_false_eq_true, hlive, e12]
        refine kwX3_loadAtValley_78 hC hE ?_
        simp only [kbX3_loadAtValley_78, mX3_loadAtValley, kblk, kstp, kent, kpad, kget, kst1, kst2, kc2, cond_false, cond_true, kfv, kfit, kOkf, kputv, kputD, kputG, kcpy, kcat, kRR, kNN, true_and, and_true, if_true, if_false, if_pos, Nat.reduceAdd, Nat.reduceEqDiff, Nat.reduceLeDiff, Nat.reduceLT, reduceIte, Prod.mk.injEq, eq_self, false_and, and_false, reduceCtorEq, Nat.reduceSub, List.reverse_cons, List.reverse_nil, List.nil_append, List.cons_append, Option.toList_some, Option.toList_none, not_true_eq_false, not_false_eq_true]
        refine ⟨⟨rfl, _, rfl, ?_, kOff.put.trans ho⟩, trivial, Nat.le_refl _, Nat.le_refl _⟩
        rw [hload]
        unfold tLoadAt
        rw [he, if_neg hn0]
        exact rep_scal hr' 13 _ (by decide) (by decide)
    have loop : ∀ (k n : Nat) (σ' : KT) (D' : KI → Nat → Int32), n + k = 6 → kS σ' → tC σ' = tC σ → kRep L D' σ' → kOff L D' D → loadT c k σ' n = loadT c 6 σ 0 → KW X 14 [some (kR (some (3, L, 0))), some (kI (nI c)), some (kI (nI n)), none] [] (km D' G) 0 0 := by
      intro k
      induction k with
      | zero =>
        intro n σ' D' hn hs' hC' hr' ho he
        have hn6 : n = 6 := by omega
        subst hn6
        refine kwX3_loadAtValley_14 hC hE ?_
        simp only [kbX3_loadAtValley_14, mX3_loadAtValley, kblk, kstp, kent, kpad, kget, kst1, kst2, kc2, cond_false, cond_true, kfv, kfit, kOkf, kputv, kputD, kputG, kcpy, kcat, kRR, kNN, true_and, and_true, if_true, if_false, if_pos, Nat.reduceAdd, Nat.reduceEqDiff, Nat.reduceLeDiff, Nat.reduceLT, reduceIte, Prod.mk.injEq, eq_self, false_and, and_false, reduceCtorEq, Nat.reduceSub, List.reverse_cons, List.reverse_nil, List.nil_append, List.cons_append, Option.toList_some, Option.toList_none, not_true_eq_false, not_false_eq_true]
        refine ⟨fun _ => fin D' σ' 6 hr' ho (by rw [← he]; rfl) (by decide), fun h => absurd (by decide) h⟩
      | succ k ih =>
        intro n σ' D' hn hs' hC' hr' ho he
        have hc' : c < tC σ' := by omega
        have q0 := hr'.old.2.2.1 c hc' 0 (by decide)
        have q2 := hr'.old.2.2.1 c hc' 2 (by decide)
        refine kwX3_loadAtValley_14 hC hE ?_
        simp only [kbX3_loadAtValley_14, mX3_loadAtValley, kblk, kstp, kent, kpad, kget, kst1, kst2, kc2, cond_false, cond_true, kfv, kfit, kOkf, kputv, kputD, kputG, kcpy, kcat, kRR, kNN, true_and, and_true, if_true, if_false, if_pos, Nat.reduceAdd, Nat.reduceEqDiff, Nat.reduceLeDiff, Nat.reduceLT, reduceIte, Prod.mk.injEq, eq_self, false_and, and_false, reduceCtorEq, Nat.reduceSub, List.reverse_cons, List.reverse_nil, List.nil_append, List.cons_append, Option.toList_some, Option.toList_none, not_true_eq_false, not_false_eq_true]
        refine ⟨fun h => absurd h (nI_ge (a := n) (b := 6) (by omega) (by decide)), fun _ => ?_⟩
        refine kwX3_loadAtValley_20 hC hE ?_
        simp only [kbX3_loadAtValley_20, mX3_loadAtValley, kblk, kstp, kent, kpad, kget, kst1, kst2, kc2, cond_false, cond_true, kfv, kfit, kOkf, kputv, kputD, kputG, kcpy, kcat, kRR, kNN, true_and, and_true, if_true, if_false, if_pos, Nat.reduceAdd, Nat.reduceEqDiff, Nat.reduceLeDiff, Nat.reduceLT, reduceIte, Prod.mk.injEq, eq_self, false_and, and_false, reduceCtorEq, Nat.reduceSub, List.reverse_cons, List.reverse_nil, List.nil_append, List.cons_append, Option.toList_some, Option.toList_none, not_true_eq_false, not_false_eq_true, hlive, hlive9, hcc, hc20, hlc, q0, q2, true_or, or_true]
        refine ⟨vp_in_nI hc20 (by omega), vp_in_nI hc20 (by omega), ?_⟩
        refine KW_callV hC (by decide +kernel) kl3_183 (by decide) ((s_groupToBoard hL hr' hs' (tZ σ' 0 c - tZ σ' 2 c))) rfl rfl (Nat.le_of_ble_eq_true rfl) rfl hlive (by simp [kOkL, kOk, hlive]) (by simp [kOkS]) (Nat.le_of_ble_eq_true rfl) (Nat.le_of_ble_eq_true rfl) (Nat.le_of_ble_eq_true rfl) ?_
        rintro v M' ⟨rfl, rfl⟩
        refine kwX3_loadAtValley_43 hC hE ?_
        simp only [kbX3_loadAtValley_43, mX3_loadAtValley, kblk, kstp, kent, kpad, kget, kst1, kst2, kc2, cond_false, cond_true, kfv, kfit, kOkf, kputv, kputD, kputG, kcpy, kcat, kRR, kNN, true_and, and_true, if_true, if_false, if_pos, Nat.reduceAdd, Nat.reduceEqDiff, Nat.reduceLeDiff, Nat.reduceLT, reduceIte, Prod.mk.injEq, eq_self, false_and, and_false, reduceCtorEq, Nat.reduceSub, List.reverse_cons, List.reverse_nil, List.nil_append, List.cons_append, Option.toList_some, Option.toList_none, not_true_eq_false, not_false_eq_true]
        simp only [loadT] at he
        rcases next_spec hs' (s := tZ σ' 0 c - tZ σ' 2 c) with h1 | ⟨g, a, g1, g2, g3, g4, g5, g6, g7, g8⟩
        · rw [if_pos h1] at he
          refine ⟨fun h => absurd h1 h, fun _ => ?_⟩
          refine kwX3_loadAtValley_49 hC hE ?_
          simp only [kbX3_loadAtValley_49, mX3_loadAtValley, kblk, kstp, kent, kpad, kget, kst1, kst2, kc2, cond_false, cond_true, kfv, kfit, kOkf, kputv, kputD, kputG, kcpy, kcat, kRR, kNN, true_and, and_true, if_true, if_false, if_pos, Nat.reduceAdd, Nat.reduceEqDiff, Nat.reduceLeDiff, Nat.reduceLT, reduceIte, Prod.mk.injEq, eq_self, false_and, and_false, reduceCtorEq, Nat.reduceSub, List.reverse_cons, List.reverse_nil, List.nil_append, List.cons_append, Option.toList_some, Option.toList_none, not_true_eq_false, not_false_eq_true]
          exact KW.le (by simp [kLE]) (fin D' σ' n hr' ho he.symm (by omega))
        · rw [if_neg g6, g7] at he
          refine ⟨fun _ => ?_, fun h => absurd h g6⟩
          rw [g5]
          refine kwX3_loadAtValley_52 hC hE ?_
          simp only [kbX3_loadAtValley_52, mX3_loadAtValley, kblk, kstp, kent, kpad, kget, kst1, kst2, kc2, cond_false, cond_true, kfv, kfit, kOkf, kputv, kputD, kputG, kcpy, kcat, kRR, kNN, true_and, and_true, if_true, if_false, if_pos, Nat.reduceAdd, Nat.reduceEqDiff, Nat.reduceLeDiff, Nat.reduceLT, reduceIte, Prod.mk.injEq, eq_self, false_and, and_false, reduceCtorEq, Nat.reduceSub, List.reverse_cons, List.reverse_nil, List.nil_append, List.cons_append, Option.toList_some, Option.toList_none, not_true_eq_false, not_false_eq_true]
          refine KW_callV hC (by decide +kernel) kl3_186 (by decide) ((s_board hL hr' hs' g1 hc' g2 g4)) rfl rfl (Nat.le_of_ble_eq_true rfl) rfl hlive (by simp [kOkL, kOk, hlive]) (by simp [kOkS]) (Nat.le_of_ble_eq_true rfl) (Nat.le_of_ble_eq_true rfl) (Nat.le_of_ble_eq_true rfl) ?_
          rintro v M' ⟨rfl, D2, rfl, hr2, ho2⟩
          refine kwX3_loadAtValley_58 hC hE ?_
          simp only [kbX3_loadAtValley_58, mX3_loadAtValley, kblk, kstp, kent, kpad, kget, kst1, kst2, kc2, cond_false, cond_true, kfv, kfit, kOkf, kputv, kputD, kputG, kcpy, kcat, kRR, kNN, true_and, and_true, if_true, if_false, if_pos, Nat.reduceAdd, Nat.reduceEqDiff, Nat.reduceLeDiff, Nat.reduceLT, reduceIte, Prod.mk.injEq, eq_self, false_and, and_false, reduceCtorEq, Nat.reduceSub, List.reverse_cons, List.reverse_nil, List.nil_append, List.cons_append, Option.toList_some, Option.toList_none, not_true_eq_false, not_false_eq_true, nI_1]
          exact KW.le (by simp [kLE]) (ih (n + 1) _ D2 (by omega) (hs'.board g1 g2 g4) (tC_takeOut.trans hC') hr2 (ho2.trans ho) he)
    refine kwX3_loadAtValley_12 hC hE ?_
    simp only [kbX3_loadAtValley_12, mX3_loadAtValley, kblk, kstp, kent, kpad, kget, kst1, kst2, kc2, cond_false, cond_true, kfv, kfit, kOkf, kputv, kputD, kputG, kcpy, kcat, kRR, kNN, true_and, and_true, if_true, if_false, if_pos, Nat.reduceAdd, Nat.reduceEqDiff, Nat.reduceLeDiff, Nat.reduceLT, reduceIte, Prod.mk.injEq, eq_self, false_and, and_false, reduceCtorEq, Nat.reduceSub, List.reverse_cons, List.reverse_nil, List.nil_append, List.cons_append, Option.toList_some, Option.toList_none, not_true_eq_false, not_false_eq_true]
    exact loop 6 0 σ D rfl hs rfl hr kOff.refl rfl
theorem imp_same {n : Nat} : tC (impTo σ n) = tC σ ∧ tL (impTo σ n) = tL σ ∧ tG (impTo σ n) = tG σ ∧ ∀ f i, f ≠ 12 → f ≠ 13 → tZ (impTo σ n) f i = tZ σ f i := by
  induction n with
  | zero => exact ⟨rfl, rfl, rfl, fun _ _ _ _ => rfl⟩
  | succ n ih =>
    simp only [impTo]
    split
    · refine ⟨tC_takeOut.trans ih.1, tL_takeOut.trans ih.2.1, tG_takeOut.trans ih.2.2.1, fun f i h1 h2 => ?_⟩
      simp only [sendT, tZ_tset, tQ_tset, tS_tset, tC_tset, tL_tset, tG_tset, tZ_tsetQ, tQ_tsetQ, tS_tsetQ, tC_tsetQ, tL_tsetQ, tG_tsetQ, tZ_tsetS, tQ_tsetS, tS_tsetS, tC_tsetS, tL_tsetS, tG_tsetS, tZ_tMod, tQ_tMod, tS_tMod, tC_tMod, tL_tMod, tG_tMod, tZ_tcnt, tQ_tcnt, tS_tcnt, tC_tcnt, tL_tcnt, tG_tcnt, tZ_takeOut]
      rw [zup_ne h1, zup_ne h2]
      exact ih.2.2.2 f i h1 h2
    · exact ih
theorem s_sendImpatient (hL : L < 2) (hr : kRep L D σ) (hs : kS σ) : SpQ mX3_sendImpatientAway 0 0 [kR (some (3, L, 0))] (km D G) (fun v M' => v = none ∧ kTo L D G (impTo σ (tG σ)) M') := by
  refine SpQ_of (own := 3) (ini := false) (by decide +kernel) rfl (by decide) (Nat.le_of_ble_eq_true rfl) ?_
  intro X hC hE hL0
  have hb3 := hs.1.2.2.1
  have hlive : kLive (3, L, 0) := ⟨hL, rfl⟩
  have hlive10 : kLive (10, L, 0) := ⟨hL, rfl⟩
  have loop : ∀ (m i : Nat) (D' : KI → Nat → Int32), i + m = tG σ → kRep L D' (impTo σ i) → kOff L D' D → KW X 2 [some (kR (some (3, L, 0))), some (kI (nI i)), none] [] (km D' G) 0 0 := by
    intro m
    induction m with
    | zero =>
      intro i D' him hr' ho
      have hi : i = tG σ := by omega
      subst hi
      have c7 := hr'.old.1.2.2
      rw [tG_impTo] at c7
      refine kwX3_sendImpatientAway_2 hC hE ?_
      simp only [kbX3_sendImpatientAway_2, mX3_sendImpatientAway, kblk, kstp, kent, kpad, kget, kst1, kst2, kc2, cond_false, cond_true, kfv, kfit, kOkf, kputv, kputD, kputG, kcpy, kcat, kRR, kNN, true_and, and_true, if_true, if_false, if_pos, Nat.reduceAdd, Nat.reduceEqDiff, Nat.reduceLeDiff, Nat.reduceLT, reduceIte, Prod.mk.injEq, eq_self, false_and, and_false, reduceCtorEq, Nat.reduceSub, List.reverse_cons, List.reverse_nil, List.nil_append, List.cons_append, Option.toList_some, Option.toList_none, not_true_eq_false, not_false_eq_true, hlive, c7]
      refine ⟨fun _ => ?_, fun h => absurd (nI_le (Nat.le_refl _) (by omega)) h⟩
      refine kwX3_sendImpatientAway_53 hC hE ?_
      simp only [kbX3_sendImpatientAway_53, mX3_sendImpatientAway, kblk, kstp, kent, kpad, kget, kst1, kst2, kc2, cond_false, cond_true, kfv, kfit, kOkf, kputv, kputD, kputG, kcpy, kcat, kRR, kNN, true_and, and_true, if_true, if_false, if_pos, Nat.reduceAdd, Nat.reduceEqDiff, Nat.reduceLeDiff, Nat.reduceLT, reduceIte, Prod.mk.injEq, eq_self, false_and, and_false, reduceCtorEq, Nat.reduceSub, List.reverse_cons, List.reverse_nil, List.nil_append, List.cons_append, Option.toList_some, Option.toList_none, not_true_eq_false, not_false_eq_true]
      exact ⟨⟨rfl, _, rfl, hr', ho⟩, trivial, Nat.le_refl _, Nat.le_refl _⟩
    | succ m ih =>
      intro i D' him hr' ho
      have hi : i < tG σ := by omega
      have hi91 : i < 91 := by omega
      have hli : kLive (1, L, i) := ⟨hL, hi91⟩
      have c7 := hr'.old.1.2.2
      rw [tG_impTo] at c7
      have hi2 : i < tG (impTo σ i) := by rw [tG_impTo]; exact hi
      have q1 := hr'.old.2.2.2.1 i hi2 1 (by decide)
      have q2 := hr'.old.2.2.2.1 i hi2 2 (by decide)
      have q5 := hr'.old.2.2.2.1 i hi2 5 (by decide)
      have q11 := hr'.old.2.1 11 (by decide) (by decide)
      have next : ∀ (D2 : KI → Nat → Int32), kRep L D2 (impTo σ (i + 1)) → kOff L D2 D → KW X 47 [some (kR (some (3, L, 0))), some (kI (nI i)), some (kR (some (1, L, i)))] [] (km D2 G) 0 0 := by
        intro D2 h1 h2
        refine kwX3_sendImpatientAway_47 hC hE ?_
        simp only [kbX3_sendImpatientAway_47, mX3_sendImpatientAway, kblk, kstp, kent, kpad, kget, kst1, kst2, kc2, cond_false, cond_true, kfv, kfit, kOkf, kputv, kputD, kputG, kcpy, kcat, kRR, kNN, true_and, and_true, if_true, if_false, if_pos, Nat.reduceAdd, Nat.reduceEqDiff, Nat.reduceLeDiff, Nat.reduceLT, reduceIte, Prod.mk.injEq, eq_self, false_and, and_false, reduceCtorEq, Nat.reduceSub, List.reverse_cons, List.reverse_nil, List.nil_append, List.cons_append, Option.toList_some, Option.toList_none, not_true_eq_false, not_false_eq_true, nI_1]
        exact KW.le (by simp [kLE]) (ih (i + 1) D2 (by omega) h1 h2)
      have stay : ¬ (tZ (impTo σ i) 12 i = 0 ∧ tZ (impTo σ i) 11 i ≤ tZ (impTo σ i) 41 0 - tZ (impTo σ i) 15 i + 1) → kRep L D' (impTo σ (i + 1)) := by
        intro h
        simp only [impTo]
        rw [if_neg h]
        exact hr'
      refine kwX3_sendImpatientAway_2 hC hE ?_
      simp only [kbX3_sendImpatientAway_2, mX3_sendImpatientAway, kblk, kstp, kent, kpad, kget, kst1, kst2, kc2, cond_false, cond_true, kfv, kfit, kOkf, kputv, kputD, kputG, kcpy, kcat, kRR, kNN, true_and, and_true, if_true, if_false, if_pos, Nat.reduceAdd, Nat.reduceEqDiff, Nat.reduceLeDiff, Nat.reduceLT, reduceIte, Prod.mk.injEq, eq_self, false_and, and_false, reduceCtorEq, Nat.reduceSub, List.reverse_cons, List.reverse_nil, List.nil_append, List.cons_append, Option.toList_some, Option.toList_none, not_true_eq_false, not_false_eq_true, hlive, c7]
      refine ⟨fun h => absurd h (nI_ge hi (by omega)), fun _ => ?_⟩
      refine kwX3_sendImpatientAway_10 hC hE ?_
      simp only [kbX3_sendImpatientAway_10, mX3_sendImpatientAway, kblk, kstp, kent, kpad, kget, kst1, kst2, kc2, cond_false, cond_true, kfv, kfit, kOkf, kputv, kputD, kputG, kcpy, kcat, kRR, kNN, true_and, and_true, if_true, if_false, if_pos, Nat.reduceAdd, Nat.reduceEqDiff, Nat.reduceLeDiff, Nat.reduceLT, reduceIte, Prod.mk.injEq, eq_self, false_and, and_false, reduceCtorEq, Nat.reduceSub, List.reverse_cons, List.reverse_nil, List.nil_append, List.cons_append, Option.toList_some, Option.toList_none, not_true_eq_false, not_false_eq_true, hlive, hlive10, nI_clamp (show i < 2 ^ 31 by omega), hi91, hli, q2, true_or, or_true]
      refine ⟨vp_in_nI hi91 (by omega), fun h => next D' (stay fun z => h z.1) ho, fun h => ?_⟩
      refine kwX3_sendImpatientAway_24 hC hE ?_
      simp only [kbX3_sendImpatientAway_24, mX3_sendImpatientAway, kblk, kstp, kent, kpad, kget, kst1, kst2, kc2, cond_false, cond_true, kfv, kfit, kOkf, kputv, kputD, kputG, kcpy, kcat, kRR, kNN, true_and, and_true, if_true, if_false, if_pos, Nat.reduceAdd, Nat.reduceEqDiff, Nat.reduceLeDiff, Nat.reduceLT, reduceIte, Prod.mk.injEq, eq_self, false_and, and_false, reduceCtorEq, Nat.reduceSub, List.reverse_cons, List.reverse_nil, List.nil_append, List.cons_append, Option.toList_some, Option.toList_none, not_true_eq_false, not_false_eq_true, hlive, hli, q1, q5, q11]
      refine ⟨fun h2 => next D' (stay fun z => absurd z.2 (Int32.not_le.mpr h2)) ho, fun h2 => ?_⟩
      refine kwX3_sendImpatientAway_42 hC hE ?_
      simp only [kbX3_sendImpatientAway_42, mX3_sendImpatientAway, kblk, kstp, kent, kpad, kget, kst1, kst2, kc2, cond_false, cond_true, kfv, kfit, kOkf, kputv, kputD, kputG, kcpy, kcat, kRR, kNN, true_and, and_true, if_true, if_false, if_pos, Nat.reduceAdd, Nat.reduceEqDiff, Nat.reduceLeDiff, Nat.reduceLT, reduceIte, Prod.mk.injEq, eq_self, false_and, and_false, reduceCtorEq, Nat.reduceSub, List.reverse_cons, List.reverse_nil, List.nil_append, List.cons_append, Option.toList_some, Option.toList_none, not_true_eq_false, not_false_eq_true]
      refine KW_callV hC (by decide +kernel) kl3_203 (by decide) ((s_sendAway hL hr' (hs.imp i (by omega)) hi2)) rfl rfl (Nat.le_of_ble_eq_true rfl) rfl hlive (by simp [kOkL, kOk, hlive, hli]) (by simp [kOkS]) (Nat.le_of_ble_eq_true rfl) (Nat.le_of_ble_eq_true rfl) (Nat.le_of_ble_eq_true rfl) ?_
      rintro v M' ⟨rfl, D2, rfl, hr2, ho2⟩
      refine next D2 ?_ (ho2.trans ho)
      simp only [impTo]
      rw [if_pos ⟨h, Int32.not_lt.mp h2⟩]
      exact hr2
  refine kwX3_sendImpatientAway_0 hC hE ?_
  simp only [kbX3_sendImpatientAway_0, mX3_sendImpatientAway, kblk, kstp, kent, kpad, kget, kst1, kst2, kc2, cond_false, cond_true, kfv, kfit, kOkf, kputv, kputD, kputG, kcpy, kcat, kRR, kNN, true_and, and_true, if_true, if_false, if_pos, Nat.reduceAdd, Nat.reduceEqDiff, Nat.reduceLeDiff, Nat.reduceLT, reduceIte, Prod.mk.injEq, eq_self, false_and, and_false, reduceCtorEq, Nat.reduceSub, List.reverse_cons, List.reverse_nil, List.nil_append, List.cons_append, Option.toList_some, Option.toList_none, not_true_eq_false, not_false_eq_true]
  exact loop (tG σ) 0 D (by omega) hr kOff.refl
end ACTS4

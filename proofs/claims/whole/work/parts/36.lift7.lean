/-! ChairLift: changing lanes, joining, needs, advice. -/
section LIFT7
variable {D : KI → Nat → Int32} {G : KI → Nat → Int64} {σ : KT}
theorem s_change (hr : kRep 0 D σ) (hs : kS σ) (c n : Int32) : SpX mX5_change 2 12 [kR (some (5, 9, 0)), kI c, kI n] (km D G) (fun v M' => ∃ g l, g < tG σ ∧ l < tL σ ∧ c = nI g ∧ n = nI l ∧ tZ σ 12 g = 0 ∧ tZ σ 21 l = 0 ∧ v = some (kI (nI (tQ (putT (takeOut σ g) g l) l).length - 1)) ∧ kPub D G (putT (takeOut σ g) g l) M') (fun E M' => ((E = kIOE ∧ ¬ ((0 ≤ c ∧ c < nI (tG σ)) ∧ 0 ≤ n ∧ n < nI (tL σ))) ∨ (E = kISE ∧ ∃ g l, g < tG σ ∧ l < tL σ ∧ c = nI g ∧ n = nI l ∧ ¬ (tZ σ 12 g = 0 ∧ tZ σ 21 l = 0))) ∧ M' = km D G) := by
  refine SpX_of (own := 5) (by decide +kernel) rfl (Nat.le_of_ble_eq_true rfl) ?_
  intro X hC hCX hE hL0 hTw hTh
  have hx := kx_live
  have hlive : kLive (3, 0, 0) := ⟨by decide, rfl⟩
  have hc10 : kLive (10, 0, 0) := ⟨by decide, rfl⟩
  have hc11 : kLive (11, 0, 0) := ⟨by decide, rfl⟩
  obtain ⟨bC, bL, bG⟩ := hr.1
  have no : ¬ ((0 ≤ c ∧ c < nI (tG σ)) ∧ 0 ≤ n ∧ n < nI (tL σ)) → KW X 20 [some (kR (some (5, 9, 0))), some (kI c), some (kI n)] [] (km D G) 0 0 := by
    intro hn
    refine kwX5_change_20 hC hE ?_
    simp only [kbX5_change_20, mX5_change, kblk, kstp, kent, kpad, kget, kst1, kst2, kc2, cond_false, cond_true, kfv, kfit, kOkf, kputv, kputD, kputG, kcpy, kcat, kRR, kNN, true_and, and_true, if_true, if_false, if_pos, Nat.reduceAdd, Nat.reduceEqDiff, Nat.reduceLeDiff, Nat.reduceLT, reduceIte, Prod.mk.injEq, eq_self, false_and, and_false, reduceCtorEq, Nat.reduceSub, List.reverse_cons, List.reverse_nil, List.nil_append, List.cons_append, Option.toList_some, Option.toList_none, not_true_eq_false, not_false_eq_true]
    refine KW_callSX hC hCX (by decide +kernel) kl5_58 (by decide) ((s_requireIndex (km D G) 0)) rfl rfl (by simp [kOkL, kOk, hx]) (by simp [kOkS]) (Nat.le_of_ble_eq_true rfl) (Nat.le_of_ble_eq_true rfl) (Nat.le_of_ble_eq_true rfl) ?_ ?_
    · rintro v M' ⟨rfl, rfl, h⟩
      exact absurd rfl h
    · rintro E M' ⟨rfl, rfl, h⟩
      exact hTw _ _ _ _ _ ⟨Or.inl ⟨rfl, hn⟩, rfl⟩ (Nat.le_of_ble_eq_true rfl) (Nat.le_of_ble_eq_true rfl)
  refine kwX5_change_0 hC hE ?_
  simp only [kbX5_change_0, mX5_change, kblk, kstp, kent, kpad, kget, kst1, kst2, kc2, cond_false, cond_true, kfv, kfit, kOkf, kputv, kputD, kputG, kcpy, kcat, kRR, kNN, true_and, and_true, if_true, if_false, if_pos, Nat.reduceAdd, Nat.reduceEqDiff, Nat.reduceLeDiff, Nat.reduceLT, reduceIte, Prod.mk.injEq, eq_self, false_and, and_false, reduceCtorEq, Nat.reduceSub, List.reverse_cons, List.reverse_nil, List.nil_append, List.cons_append, Option.toList_some, Option.toList_none, not_true_eq_false, not_false_eq_true]
  refine KW_callV hC (by decide +kernel) kl5_86 (by decide) ((s_isGroup hr c)) rfl rfl (Nat.le_of_ble_eq_true rfl) rfl hx (by simp [kOkL, kOk, hx]) (by simp [kOkS]) (Nat.le_of_ble_eq_true rfl) (Nat.le_of_ble_eq_true rfl) (Nat.le_of_ble_eq_true rfl) ?_
  rintro v M' ⟨rfl, rfl⟩
  refine kwX5_change_5 hC hE ?_
  simp only [kbX5_change_5, mX5_change, kblk, kstp, kent, kpad, kget, kst1, kst2, kc2, cond_false, cond_true, kfv, kfit, kOkf, kputv, kputD, kputG, kcpy, kcat, kRR, kNN, true_and, and_true, if_true, if_false, if_pos, Nat.reduceAdd, Nat.reduceEqDiff, Nat.reduceLeDiff, Nat.reduceLT, reduceIte, Prod.mk.injEq, eq_self, false_and, and_false, reduceCtorEq, Nat.reduceSub, List.reverse_cons, List.reverse_nil, List.nil_append, List.cons_append, Option.toList_some, Option.toList_none, not_true_eq_false, not_false_eq_true]
  refine ⟨fun h => no (fun z => b01_0 h z.1), fun h => ?_⟩
  have h1 := b01_1 h
  refine kwX5_change_8 hC hE ?_
  simp only [kbX5_change_8, mX5_change, kblk, kstp, kent, kpad, kget, kst1, kst2, kc2, cond_false, cond_true, kfv, kfit, kOkf, kputv, kputD, kputG, kcpy, kcat, kRR, kNN, true_and, and_true, if_true, if_false, if_pos, Nat.reduceAdd, Nat.reduceEqDiff, Nat.reduceLeDiff, Nat.reduceLT, reduceIte, Prod.mk.injEq, eq_self, false_and, and_false, reduceCtorEq, Nat.reduceSub, List.reverse_cons, List.reverse_nil, List.nil_append, List.cons_append, Option.toList_some, Option.toList_none, not_true_eq_false, not_false_eq_true]
  refine KW_callV hC (by decide +kernel) kl5_54 (by decide) ((s_isLane hr n)) rfl rfl (Nat.le_of_ble_eq_true rfl) rfl hx (by simp [kOkL, kOk, hx]) (by simp [kOkS]) (Nat.le_of_ble_eq_true rfl) (Nat.le_of_ble_eq_true rfl) (Nat.le_of_ble_eq_true rfl) ?_
  rintro v M' ⟨rfl, rfl⟩
  refine kwX5_change_13 hC hE ?_
  simp only [kbX5_change_13, mX5_change, kblk, kstp, kent, kpad, kget, kst1, kst2, kc2, cond_false, cond_true, kfv, kfit, kOkf, kputv, kputD, kputG, kcpy, kcat, kRR, kNN, true_and, and_true, if_true, if_false, if_pos, Nat.reduceAdd, Nat.reduceEqDiff, Nat.reduceLeDiff, Nat.reduceLT, reduceIte, Prod.mk.injEq, eq_self, false_and, and_false, reduceCtorEq, Nat.reduceSub, List.reverse_cons, List.reverse_nil, List.nil_append, List.cons_append, Option.toList_some, Option.toList_none, not_true_eq_false, not_false_eq_true]
  refine ⟨fun h => no (fun z => b01_0 h z.2), fun h => ?_⟩
  have h2 := b01_1 h
  refine kwX5_change_16 hC hE ?_
  simp only [kbX5_change_16, mX5_change, kblk, kstp, kent, kpad, kget, kst1, kst2, kc2, cond_false, cond_true, kfv, kfit, kOkf, kputv, kputD, kputG, kcpy, kcat, kRR, kNN, true_and, and_true, if_true, if_false, if_pos, Nat.reduceAdd, Nat.reduceEqDiff, Nat.reduceLeDiff, Nat.reduceLT, reduceIte, Prod.mk.injEq, eq_self, false_and, and_false, reduceCtorEq, Nat.reduceSub, List.reverse_cons, List.reverse_nil, List.nil_append, List.cons_append, Option.toList_some, Option.toList_none, not_true_eq_false, not_false_eq_true]
  refine KW_callSX hC hCX (by decide +kernel) kl5_58 (by decide) ((s_requireIndex (km D G) 1)) rfl rfl (by simp [kOkL, kOk, hx]) (by simp [kOkS]) (Nat.le_of_ble_eq_true rfl) (Nat.le_of_ble_eq_true rfl) (Nat.le_of_ble_eq_true rfl) ?_ ?_
  · rintro v M' ⟨rfl, rfl, h⟩
    obtain ⟨g, hg, rfl⟩ := in_range (by omega) h1
    obtain ⟨l, hl, rfl⟩ := in_range (by omega) h2
    have hg91 : g < 91 := by omega
    have hl4 : l < 4 := by omega
    have hlg : kLive (1, 0, g) := ⟨by decide, hg91⟩
    have hll : kLive (2, 0, l) := ⟨by decide, hl4⟩
    have hlr : kLive (4, 0, l + 1) := ⟨by decide, by omega⟩
    have hcg := nI_clamp (show g < 2 ^ 31 by omega)
    have hcl := nI_clamp (show l < 2 ^ 31 by omega)
    have q2 := hr.old.2.2.2.1 g hg 2 (by decide)
    have q1 := hr.old.2.2.2.2.1 l hl 1 (by decide) (by decide)
    have no2 : ¬ (tZ σ 12 g = 0 ∧ tZ σ 21 l = 0) → KW X 58 [some (kR (some (5, 9, 0))), some (kI (nI g)), some (kI (nI l))] [] (km D G) (0 + 1) (0 + 6) := by
      intro hn
      refine kwX5_change_58 hC hE ?_
      simp only [kbX5_change_58, mX5_change, kblk, kstp, kent, kpad, kget, kst1, kst2, kc2, cond_false, cond_true, kfv, kfit, kOkf, kputv, kputD, kputG, kcpy, kcat, kRR, kNN, true_and, and_true, if_true, if_false, if_pos, Nat.reduceAdd, Nat.reduceEqDiff, Nat.reduceLeDiff, Nat.reduceLT, reduceIte, Prod.mk.injEq, eq_self, false_and, and_false, reduceCtorEq, Nat.reduceSub, List.reverse_cons, List.reverse_nil, List.nil_append, List.cons_append, Option.toList_some, Option.toList_none, not_true_eq_false, not_false_eq_true]
      refine KW_callSX hC hCX (by decide +kernel) kl5_31 (by decide) ((s_requireState (km D G) 0)) rfl rfl (by simp [kOkL, kOk, hx]) (by simp [kOkS]) (Nat.le_of_ble_eq_true rfl) (Nat.le_of_ble_eq_true rfl) (Nat.le_of_ble_eq_true rfl) ?_ ?_
      · rintro v M' ⟨rfl, rfl, h⟩
        exact absurd rfl h
      · rintro E M' ⟨rfl, rfl, h⟩
        exact hTw _ _ _ _ _ ⟨Or.inr ⟨rfl, g, l, hg, hl, rfl, rfl, hn⟩, rfl⟩ (Nat.le_refl _) (Nat.le_refl _)
    refine kwX5_change_24 hC hE ?_
    simp only [kbX5_change_24, mX5_change, kblk, kstp, kent, kpad, kget, kst1, kst2, kc2, cond_false, cond_true, kfv, kfit, kOkf, kputv, kputD, kputG, kcpy, kcat, kRR, kNN, true_and, and_true, if_true, if_false, if_pos, Nat.reduceAdd, Nat.reduceEqDiff, Nat.reduceLeDiff, Nat.reduceLT, reduceIte, Prod.mk.injEq, eq_self, false_and, and_false, reduceCtorEq, Nat.reduceSub, List.reverse_cons, List.reverse_nil, List.nil_append, List.cons_append, Option.toList_some, Option.toList_none, not_true_eq_false, not_false_eq_true, hx, hlive, hc10, hlg, hcg, hg91, q2, true_or, or_true]
    refine ⟨vp_in_nI hg91 (by omega), fun hn => no2 (fun z => hn z.1), fun hn => ?_⟩
    refine kwX5_change_39 hC hE ?_
    simp only [kbX5_change_39, mX5_change, kblk, kstp, kent, kpad, kget, kst1, kst2, kc2, cond_false, cond_true, kfv, kfit, kOkf, kputv, kputD, kputG, kcpy, kcat, kRR, kNN, true_and, and_true, if_true, if_false, if_pos, Nat.reduceAdd, Nat.reduceEqDiff, Nat.reduceLeDiff, Nat.reduceLT, reduceIte, Prod.mk.injEq, eq_self, false_and, and_false, reduceCtorEq, Nat.reduceSub, List.reverse_cons, List.reverse_nil, List.nil_append, List.cons_append, Option.toList_some, Option.toList_none, not_true_eq_false, not_false_eq_true, hx, hlive, hc11, hll, hcl, hl4, q1, true_or, or_true]
    refine ⟨vp_in_nI hl4 (by omega), fun hn2 => no2 (fun z => hn2 z.2), fun hn2 => ?_⟩
    refine kwX5_change_54 hC hE ?_
    simp only [kbX5_change_54, mX5_change, kblk, kstp, kent, kpad, kget, kst1, kst2, kc2, cond_false, cond_true, kfv, kfit, kOkf, kputv, kputD, kputG, kcpy, kcat, kRR, kNN, true_and, and_true, if_true, if_false, if_pos, Nat.reduceAdd, Nat.reduceEqDiff, Nat.reduceLeDiff, Nat.reduceLT, reduceIte, Prod.mk.injEq, eq_self, false_and, and_false, reduceCtorEq, Nat.reduceSub, List.reverse_cons, List.reverse_nil, List.nil_append, List.cons_append, Option.toList_some, Option.toList_none, not_true_eq_false, not_false_eq_true]
    refine KW_callSX hC hCX (by decide +kernel) kl5_31 (by decide) ((s_requireState (km D G) 1)) rfl rfl (by simp [kOkL, kOk, hx]) (by simp [kOkS]) (Nat.le_of_ble_eq_true rfl) (Nat.le_of_ble_eq_true rfl) (Nat.le_of_ble_eq_true rfl) ?_ ?_
    · rintro v M' ⟨rfl, rfl, h⟩
      refine kwX5_change_62 hC hE ?_
      simp only [kbX5_change_62, mX5_change, kblk, kstp, kent, kpad, kget, kst1, kst2, kc2, cond_false, cond_true, kfv, kfit, kOkf, kputv, kputD, kputG, kcpy, kcat, kRR, kNN, true_and, and_true, if_true, if_false, if_pos, Nat.reduceAdd, Nat.reduceEqDiff, Nat.reduceLeDiff, Nat.reduceLT, reduceIte, Prod.mk.injEq, eq_self, false_and, and_false, reduceCtorEq, Nat.reduceSub, List.reverse_cons, List.reverse_nil, List.nil_append, List.cons_append, Option.toList_some, Option.toList_none, not_true_eq_false, not_false_eq_true, hx, hlive]
      refine KW_callV hC (by decide +kernel) kl5_98 (by decide) ((s_takeOut (by decide) hr hs hg)) rfl rfl (Nat.le_of_ble_eq_true rfl) rfl hlive (by simp [kOkL, kOk, hx]) (by simp [kOkS]) (Nat.le_of_ble_eq_true rfl) (Nat.le_of_ble_eq_true rfl) (Nat.le_of_ble_eq_true rfl) ?_
      rintro v M' ⟨rfl, D1, rfl, hr1, ho1⟩
      have hs1 := hs.take hg
      have hq := hs1.qlt (g := g) (l := l) (by rw [tG_takeOut]; exact hg) (by rw [tL_takeOut]; exact hl) (by rw [tZ_takeOut, zup_eq])
      rw [tG_takeOut] at hq
      refine kwX5_change_70 hC hE ?_
      simp only [kbX5_change_70, mX5_change, kblk, kstp, kent, kpad, kget, kst1, kst2, kc2, cond_false, cond_true, kfv, kfit, kOkf, kputv, kputD, kputG, kcpy, kcat, kRR, kNN, true_and, and_true, if_true, if_false, if_pos, Nat.reduceAdd, Nat.reduceEqDiff, Nat.reduceLeDiff, Nat.reduceLT, reduceIte, Prod.mk.injEq, eq_self, false_and, and_false, reduceCtorEq, Nat.reduceSub, List.reverse_cons, List.reverse_nil, List.nil_append, List.cons_append, Option.toList_some, Option.toList_none, not_true_eq_false, not_false_eq_true, hx, hlive]
      refine KW_callV hC (by decide +kernel) kl5_102 (by decide) ((s_putInto (by decide) hr1 hg91 (l := l) (by rw [tL_takeOut]; exact hl) (by omega))) rfl rfl (Nat.le_of_ble_eq_true rfl) rfl hlive (by simp [kOkL, kOk, hx]) (by simp [kOkS]) (Nat.le_of_ble_eq_true rfl) (Nat.le_of_ble_eq_true rfl) (Nat.le_of_ble_eq_true rfl) ?_
      rintro v M' ⟨rfl, D2, rfl, hr2, ho2⟩
      have hrow := hr2.old.2.2.2.2.2.2.2 l (by show l < tL (takeOut σ g); rw [tL_takeOut]; exact hl)
      refine kwX5_change_79 hC hE ?_
      simp only [kbX5_change_79, mX5_change, kblk, kstp, kent, kpad, kget, kst1, kst2, kc2, cond_false, cond_true, kfv, kfit, kOkf, kputv, kputD, kputG, kcpy, kcat, kRR, kNN, true_and, and_true, if_true, if_false, if_pos, Nat.reduceAdd, Nat.reduceEqDiff, Nat.reduceLeDiff, Nat.reduceLT, reduceIte, Prod.mk.injEq, eq_self, false_and, and_false, reduceCtorEq, Nat.reduceSub, List.reverse_cons, List.reverse_nil, List.nil_append, List.cons_append, Option.toList_some, Option.toList_none, not_true_eq_false, not_false_eq_true, hx, hlive, hc11, hll, hlr, hcl, hl4, hrow.1, true_or, or_true]
      exact ⟨vp_in_nI hl4 (by omega), ⟨g, l, hg, hl, rfl, rfl, hn, hn2, rfl, kPub_0 ⟨D2, rfl, hr2, ho2.trans ho1⟩⟩, trivial, Nat.le_refl _, Nat.le_refl _⟩
    · rintro E M' ⟨rfl, rfl, h⟩
      exact absurd h (by decide)
  · rintro E M' ⟨rfl, rfl, h⟩
    exact absurd h (by decide)
theorem s_join (hr : kRep 0 D σ) (hs : kS σ) (c a b : Int32) : SpX mX5_join 3 18 [kR (some (5, 9, 0)), kI c, kI a, kI b] (km D G) (fun v M' => ∃ l, l < tL σ ∧ c = nI l ∧ (1 ≤ a ∧ a ≤ 6) ∧ (1 ≤ b ∧ b ≤ 200) ∧ tZ σ 21 l = 0 ∧ tG σ < 90 ∧ v = some (kI (nI (tG σ))) ∧ kPub D G (mkGroup σ l a b) M') (fun E M' => ((E = kIOE ∧ ¬ (0 ≤ c ∧ c < nI (tL σ))) ∨ ∃ l, l < tL σ ∧ c = nI l ∧ ((E = kIAE ∧ ¬ ((1 ≤ a ∧ a ≤ 6) ∧ 1 ≤ b ∧ b ≤ 200)) ∨ (E = kISE ∧ ((1 ≤ a ∧ a ≤ 6) ∧ 1 ≤ b ∧ b ≤ 200) ∧ ¬ (tZ σ 21 l = 0 ∧ tG σ < 90)))) ∧ M' = km D G) := by
  refine SpX_of (own := 5) (by decide +kernel) rfl (Nat.le_of_ble_eq_true rfl) ?_
  intro X hC hCX hE hL0 hTw hTh
  have hx := kx_live
  have hlive : kLive (3, 0, 0) := ⟨by decide, rfl⟩
  have hc11 : kLive (11, 0, 0) := ⟨by decide, rfl⟩
  have c7 := hr.old.1.2.2
  obtain ⟨bC, bL, bG⟩ := hr.1
  refine kwX5_join_0 hC hE ?_
  simp only [kbX5_join_0, mX5_join, kblk, kstp, kent, kpad, kget, kst1, kst2, kc2, cond_false, cond_true, kfv, kfit, kOkf, kputv, kputD, kputG, kcpy, kcat, kRR, kNN, true_and, and_true, if_true, if_false, if_pos, Nat.reduceAdd, Nat.reduceEqDiff, Nat.reduceLeDiff, Nat.reduceLT, reduceIte, Prod.mk.injEq, eq_self, false_and, and_false, reduceCtorEq, Nat.reduceSub, List.reverse_cons, List.reverse_nil, List.nil_append, List.cons_append, Option.toList_some, Option.toList_none, not_true_eq_false, not_false_eq_true]
  refine KW_callV hC (by decide +kernel) kl5_54 (by decide) ((s_isLane hr c)) rfl rfl (Nat.le_of_ble_eq_true rfl) rfl hx (by simp [kOkL, kOk, hx]) (by simp [kOkS]) (Nat.le_of_ble_eq_true rfl) (Nat.le_of_ble_eq_true rfl) (Nat.le_of_ble_eq_true rfl) ?_
  rintro v M' ⟨rfl, rfl⟩
  refine KW_callSX hC hCX (by decide +kernel) kl5_58 (by decide) ((s_requireIndex (km D G) _)) rfl rfl (by simp [kOkL, kOk, hx]) (by simp [kOkS]) (Nat.le_of_ble_eq_true rfl) (Nat.le_of_ble_eq_true rfl) (Nat.le_of_ble_eq_true rfl) ?_ ?_
  · rintro v M' ⟨rfl, rfl, h⟩
    obtain ⟨l, hl, rfl⟩ := in_range (by omega) (b01_1 h)
    have hl4 : l < 4 := by omega
    have hll : kLive (2, 0, l) := ⟨by decide, hl4⟩
    have hcl := nI_clamp (show l < 2 ^ 31 by omega)
    have q1 := hr.old.2.2.2.2.1 l hl 1 (by decide) (by decide)
    have no : ¬ ((1 ≤ a ∧ a ≤ 6) ∧ 1 ≤ b ∧ b ≤ 200) → KW X 33 [some (kR (some (5, 9, 0))), some (kI (nI l)), some (kI a), some (kI b)] [] (km D G) (0 + 1) (0 + 6) := by
      intro hn
      refine kwX5_join_33 hC hE ?_
      simp only [kbX5_join_33, mX5_join, kblk, kstp, kent, kpad, kget, kst1, kst2, kc2, cond_false, cond_true, kfv, kfit, kOkf, kputv, kputD, kputG, kcpy, kcat, kRR, kNN, true_and, and_true, if_true, if_false, if_pos, Nat.reduceAdd, Nat.reduceEqDiff, Nat.reduceLeDiff, Nat.reduceLT, reduceIte, Prod.mk.injEq, eq_self, false_and, and_false, reduceCtorEq, Nat.reduceSub, List.reverse_cons, List.reverse_nil, List.nil_append, List.cons_append, Option.toList_some, Option.toList_none, not_true_eq_false, not_false_eq_true]
      refine KW_callSX hC hCX (by decide +kernel) kl5_23 (by decide) ((s_requireArgument (km D G) 0)) rfl rfl (by simp [kOkL, kOk, hx]) (by simp [kOkS]) (Nat.le_of_ble_eq_true rfl) (Nat.le_of_ble_eq_true rfl) (Nat.le_of_ble_eq_true rfl) ?_ ?_
      · rintro v M' ⟨rfl, rfl, h⟩
        exact absurd rfl h
      · rintro E M' ⟨rfl, rfl, h⟩
        exact hTw _ _ _ _ _ ⟨Or.inr ⟨l, hl, rfl, Or.inl ⟨rfl, hn⟩⟩, rfl⟩ (Nat.le_of_ble_eq_true rfl) (Nat.le_of_ble_eq_true rfl)
    refine kwX5_join_8 hC hE ?_
    simp only [kbX5_join_8, mX5_join, kblk, kstp, kent, kpad, kget, kst1, kst2, kc2, cond_false, cond_true, kfv, kfit, kOkf, kputv, kputD, kputG, kcpy, kcat, kRR, kNN, true_and, and_true, if_true, if_false, if_pos, Nat.reduceAdd, Nat.reduceEqDiff, Nat.reduceLeDiff, Nat.reduceLT, reduceIte, Prod.mk.injEq, eq_self, false_and, and_false, reduceCtorEq, Nat.reduceSub, List.reverse_cons, List.reverse_nil, List.nil_append, List.cons_append, Option.toList_some, Option.toList_none, not_true_eq_false, not_false_eq_true]
    refine KW_callS hC (by decide +kernel) kl5_19 (by decide) ((s_isWithin (km D G) a 1 6)) rfl rfl (by simp [kOkL, kOk, hx]) (by simp [kOkS]) (Nat.le_of_ble_eq_true rfl) (Nat.le_of_ble_eq_true rfl) (Nat.le_of_ble_eq_true rfl) ?_
    rintro v M' ⟨rfl, rfl⟩
    refine kwX5_join_15 hC hE ?_
    simp only [kbX5_join_15, mX5_join, kblk, kstp, kent, kpad, kget, kst1, kst2, kc2, cond_false, cond_true, kfv, kfit, kOkf, kputv, kputD, kputG, kcpy, kcat, kRR, kNN, true_and, and_true, if_true, if_false, if_pos, Nat.reduceAdd, Nat.reduceEqDiff, Nat.reduceLeDiff, Nat.reduceLT, reduceIte, Prod.mk.injEq, eq_self, false_and, and_false, reduceCtorEq, Nat.reduceSub, List.reverse_cons, List.reverse_nil, List.nil_append, List.cons_append, Option.toList_some, Option.toList_none, not_true_eq_false, not_false_eq_true]
    refine ⟨fun h => no (fun z => b01_0 h z.1), fun h => ?_⟩
    have ha := b01_1 h
    refine kwX5_join_18 hC hE ?_
    simp only [kbX5_join_18, mX5_join, kblk, kstp, kent, kpad, kget, kst1, kst2, kc2, cond_false, cond_true, kfv, kfit, kOkf, kputv, kputD, kputG, kcpy, kcat, kRR, kNN, true_and, and_true, if_true, if_false, if_pos, Nat.reduceAdd, Nat.reduceEqDiff, Nat.reduceLeDiff, Nat.reduceLT, reduceIte, Prod.mk.injEq, eq_self, false_and, and_false, reduceCtorEq, Nat.reduceSub, List.reverse_cons, List.reverse_nil, List.nil_append, List.cons_append, Option.toList_some, Option.toList_none, not_true_eq_false, not_false_eq_true]
    refine KW_callS hC (by decide +kernel) kl5_19 (by decide) ((s_isWithin (km D G) b 1 200)) rfl rfl (by simp [kOkL, kOk, hx]) (by simp [kOkS]) (Nat.le_of_ble_eq_true rfl) (Nat.le_of_ble_eq_true rfl) (Nat.le_of_ble_eq_true rfl) ?_
    rintro v M' ⟨rfl, rfl⟩
    refine kwX5_join_26 hC hE ?_
    simp only [kbX5_join_26, mX5_join, kblk, kstp, kent, kpad, kget, kst1, kst2, kc2, cond_false, cond_true, kfv, kfit, kOkf, kputv, kputD, kputG, kcpy, kcat, kRR, kNN, true_and, and_true, if_true, if_false, if_pos, Nat.reduceAdd, Nat.reduceEqDiff, Nat.reduceLeDiff, Nat.reduceLT, reduceIte, Prod.mk.injEq, eq_self, false_and, and_false, reduceCtorEq, Nat.reduceSub, List.reverse_cons, List.reverse_nil, List.nil_append, List.cons_append, Option.toList_some, Option.toList_none, not_true_eq_false, not_false_eq_true]
    refine ⟨fun h => no (fun z => b01_0 h z.2), fun h => ?_⟩
    have hb := b01_1 h
    refine kwX5_join_29 hC hE ?_
    simp only [kbX5_join_29, mX5_join, kblk, kstp, kent, kpad, kget, kst1, kst2, kc2, cond_false, cond_true, kfv, kfit, kOkf, kputv, kputD, kputG, kcpy, kcat, kRR, kNN, true_and, and_true, if_true, if_false, if_pos, Nat.reduceAdd, Nat.reduceEqDiff, Nat.reduceLeDiff, Nat.reduceLT, reduceIte, Prod.mk.injEq, eq_self, false_and, and_false, reduceCtorEq, Nat.reduceSub, List.reverse_cons, List.reverse_nil, List.nil_append, List.cons_append, Option.toList_some, Option.toList_none, not_true_eq_false, not_false_eq_true]
    refine KW_callSX hC hCX (by decide +kernel) kl5_23 (by decide) ((s_requireArgument (km D G) 1)) rfl rfl (by simp [kOkL, kOk, hx]) (by simp [kOkS]) (Nat.le_of_ble_eq_true rfl) (Nat.le_of_ble_eq_true rfl) (Nat.le_of_ble_eq_true rfl) ?_ ?_
    · rintro v M' ⟨rfl, rfl, h⟩
      have no2 : ¬ (tZ σ 21 l = 0 ∧ tG σ < 90) → KW X 68 [some (kR (some (5, 9, 0))), some (kI (nI l)), some (kI a), some (kI b)] [] (km D G) (0 + 1 + 0 + 0 + 1) (0 + 6 + 0 + 0 + 6) := by
        intro hn
        refine kwX5_join_68 hC hE ?_
        simp only [kbX5_join_68, mX5_join, kblk, kstp, kent, kpad, kget, kst1, kst2, kc2, cond_false, cond_true, kfv, kfit, kOkf, kputv, kputD, kputG, kcpy, kcat, kRR, kNN, true_and, and_true, if_true, if_false, if_pos, Nat.reduceAdd, Nat.reduceEqDiff, Nat.reduceLeDiff, Nat.reduceLT, reduceIte, Prod.mk.injEq, eq_self, false_and, and_false, reduceCtorEq, Nat.reduceSub, List.reverse_cons, List.reverse_nil, List.nil_append, List.cons_append, Option.toList_some, Option.toList_none, not_true_eq_false, not_false_eq_true]
        refine KW_callSX hC hCX (by decide +kernel) kl5_31 (by decide) ((s_requireState (km D G) 0)) rfl rfl (by simp [kOkL, kOk, hx]) (by simp [kOkS]) (Nat.le_of_ble_eq_true rfl) (Nat.le_of_ble_eq_true rfl) (Nat.le_of_ble_eq_true rfl) ?_ ?_
        · rintro v M' ⟨rfl, rfl, h⟩
          exact absurd rfl h
        · rintro E M' ⟨rfl, rfl, h⟩
          exact hTw _ _ _ _ _ ⟨Or.inr ⟨l, hl, rfl, Or.inr ⟨rfl, ⟨ha, hb⟩, hn⟩⟩, rfl⟩ (Nat.le_of_ble_eq_true rfl) (Nat.le_of_ble_eq_true rfl)
      refine kwX5_join_37 hC hE ?_
      simp only [kbX5_join_37, mX5_join, kblk, kstp, kent, kpad, kget, kst1, kst2, kc2, cond_false, cond_true, kfv, kfit, kOkf, kputv, kputD, kputG, kcpy, kcat, kRR, kNN, true_and, and_true, if_true, if_false, if_pos, Nat.reduceAdd, Nat.reduceEqDiff, Nat.reduceLeDiff, Nat.reduceLT, reduceIte, Prod.mk.injEq, eq_self, false_and, and_false, reduceCtorEq, Nat.reduceSub, List.reverse_cons, List.reverse_nil, List.nil_append, List.cons_append, Option.toList_some, Option.toList_none, not_true_eq_false, not_false_eq_true, hx, hlive, hc11, hll, hcl, hl4, q1, true_or, or_true]
      refine ⟨vp_in_nI hl4 (by omega), fun hn => no2 (fun z => hn z.1), fun hn => ?_⟩
      refine kwX5_join_52 hC hE ?_
      simp only [kbX5_join_52, mX5_join, kblk, kstp, kent, kpad, kget, kst1, kst2, kc2, cond_false, cond_true, kfv, kfit, kOkf, kputv, kputD, kputG, kcpy, kcat, kRR, kNN, true_and, and_true, if_true, if_false, if_pos, Nat.reduceAdd, Nat.reduceEqDiff, Nat.reduceLeDiff, Nat.reduceLT, reduceIte, Prod.mk.injEq, eq_self, false_and, and_false, reduceCtorEq, Nat.reduceSub, List.reverse_cons, List.reverse_nil, List.nil_append, List.cons_append, Option.toList_some, Option.toList_none, not_true_eq_false, not_false_eq_true, hx, hlive, c7]
      refine ⟨fun hn2 => no2 (fun z => absurd hn2 (nI_ge (a := tG σ) (b := 90) z.2 (by decide))), fun hn2 => ?_⟩
      have hG : tG σ < 90 := nI_ltr (b := 90) (by omega) (by decide) (Int32.not_le.mp hn2)
      refine kwX5_join_64 hC hE ?_
      simp only [kbX5_join_64, mX5_join, kblk, kstp, kent, kpad, kget, kst1, kst2, kc2, cond_false, cond_true, kfv, kfit, kOkf, kputv, kputD, kputG, kcpy, kcat, kRR, kNN, true_and, and_true, if_true, if_false, if_pos, Nat.reduceAdd, Nat.reduceEqDiff, Nat.reduceLeDiff, Nat.reduceLT, reduceIte, Prod.mk.injEq, eq_self, false_and, and_false, reduceCtorEq, Nat.reduceSub, List.reverse_cons, List.reverse_nil, List.nil_append, List.cons_append, Option.toList_some, Option.toList_none, not_true_eq_false, not_false_eq_true]
      refine KW_callSX hC hCX (by decide +kernel) kl5_31 (by decide) ((s_requireState (km D G) 1)) rfl rfl (by simp [kOkL, kOk, hx]) (by simp [kOkS]) (Nat.le_of_ble_eq_true rfl) (Nat.le_of_ble_eq_true rfl) (Nat.le_of_ble_eq_true rfl) ?_ ?_
      · rintro v M' ⟨rfl, rfl, h⟩
        refine kwX5_join_72 hC hE ?_
        simp only [kbX5_join_72, mX5_join, kblk, kstp, kent, kpad, kget, kst1, kst2, kc2, cond_false, cond_true, kfv, kfit, kOkf, kputv, kputD, kputG, kcpy, kcat, kRR, kNN, true_and, and_true, if_true, if_false, if_pos, Nat.reduceAdd, Nat.reduceEqDiff, Nat.reduceLeDiff, Nat.reduceLT, reduceIte, Prod.mk.injEq, eq_self, false_and, and_false, reduceCtorEq, Nat.reduceSub, List.reverse_cons, List.reverse_nil, List.nil_append, List.cons_append, Option.toList_some, Option.toList_none, not_true_eq_false, not_false_eq_true, hx, hlive]
        refine KW_callV hC (by decide +kernel) kl5_82 (by decide) ((s_makeGroup hr hs (by omega) hl a b)) rfl rfl (Nat.le_of_ble_eq_true rfl) rfl hlive (by simp [kOkL, kOk, hx]) (by simp [kOkS]) (Nat.le_of_ble_eq_true rfl) (Nat.le_of_ble_eq_true rfl) (Nat.le_of_ble_eq_true rfl) ?_
        rintro v M' ⟨rfl, hp⟩
        refine kwX5_join_82 hC hE ?_
        simp only [kbX5_join_82, mX5_join, kblk, kstp, kent, kpad, kget, kst1, kst2, kc2, cond_false, cond_true, kfv, kfit, kOkf, kputv, kputD, kputG, kcpy, kcat, kRR, kNN, true_and, and_true, if_true, if_false, if_pos, Nat.reduceAdd, Nat.reduceEqDiff, Nat.reduceLeDiff, Nat.reduceLT, reduceIte, Prod.mk.injEq, eq_self, false_and, and_false, reduceCtorEq, Nat.reduceSub, List.reverse_cons, List.reverse_nil, List.nil_append, List.cons_append, Option.toList_some, Option.toList_none, not_true_eq_false, not_false_eq_true]
        exact ⟨⟨l, hl, rfl, ha, hb, hn, hG, rfl, kPub_0 hp⟩, trivial, Nat.le_refl _, Nat.le_refl _⟩
      · rintro E M' ⟨rfl, rfl, h⟩
        exact absurd h (by decide)
    · rintro E M' ⟨rfl, rfl, h⟩
      exact absurd h (by decide)
  · rintro E M' ⟨rfl, rfl, h⟩
    exact hTw _ _ _ _ _ ⟨Or.inl ⟨rfl, b01_0 h⟩, rfl⟩ (Nat.le_of_ble_eq_true rfl) (Nat.le_of_ble_eq_true rfl)
theorem s_needs (hr : kRep 0 D σ) (hs : kS σ) (hbool : ∀ l, l < tL σ → tZ σ 21 l = 0 ∨ tZ σ 21 l = 1) (p s : Int32) : SpX mX5_needs 1 6 [kR (some (5, 9, 0)), kI p, kI s] (km D G) (fun v M' => (∃ k, 1 ≤ k ∧ k ≤ 100 ∧ s = nI k ∧ (1 ≤ p ∧ p ≤ 500) ∧ v = some (kI (tNeeds σ p k (tC σ + 1) 0))) ∧ kPub D G σ M') (fun E M' => (E = kIAE ∧ ¬ ((1 ≤ p ∧ p ≤ 500) ∧ 1 ≤ s ∧ s ≤ 100)) ∧ M' = km D G) := by
  refine SpX_of (own := 5) (by decide +kernel) rfl (Nat.le_of_ble_eq_true rfl) ?_
  intro X hC hCX hE hL0 hTw hTh
  have hx := kx_live
  have hlive : kLive (3, 0, 0) := ⟨by decide, rfl⟩
  have hlive1 : kLive (3, 1, 0) := ⟨by decide, rfl⟩
  obtain ⟨bC, bL, bG⟩ := hr.1
  have no : ¬ ((1 ≤ p ∧ p ≤ 500) ∧ 1 ≤ s ∧ s ≤ 100) → KW X 25 [some (kR (some (5, 9, 0))), some (kI p), some (kI s), none] [] (km D G) 0 0 := by
    intro hn
    refine kwX5_needs_25 hC hE ?_
    simp only [kbX5_needs_25, mX5_needs, kblk, kstp, kent, kpad, kget, kst1, kst2, kc2, cond_false, cond_true, kfv, kfit, kOkf, kputv, kputD, kputG, kcpy, kcat, kRR, kNN, true_and, and_true, if_true, if_false, if_pos, Nat.reduceAdd, Nat.reduceEqDiff, Nat.reduceLeDiff, Nat.reduceLT, reduceIte, Prod.mk.injEq, eq_self, false_and, and_false, reduceCtorEq, Nat.reduceSub, List.reverse_cons, List.reverse_nil, List.nil_append, List.cons_append, Option.toList_some, Option.toList_none, not_true_eq_false, not_false_eq_true]
    refine KW_callSX hC hCX (by decide +kernel) kl5_23 (by decide) ((s_requireArgument (km D G) 0)) rfl rfl (by simp [kOkL, kOk, hx]) (by simp [kOkS]) (Nat.le_of_ble_eq_true rfl) (Nat.le_of_ble_eq_true rfl) (Nat.le_of_ble_eq_true rfl) ?_ ?_
    · rintro v M' ⟨rfl, rfl, h⟩
      exact absurd rfl h
    · rintro E M' ⟨rfl, rfl, h⟩
      exact hTw _ _ _ _ _ ⟨⟨rfl, hn⟩, rfl⟩ (Nat.le_refl _) (Nat.le_refl _)
  refine kwX5_needs_0 hC hE ?_
  simp only [kbX5_needs_0, mX5_needs, kblk, kstp, kent, kpad, kget, kst1, kst2, kc2, cond_false, cond_true, kfv, kfit, kOkf, kputv, kputD, kputG, kcpy, kcat, kRR, kNN, true_and, and_true, if_true, if_false, if_pos, Nat.reduceAdd, Nat.reduceEqDiff, Nat.reduceLeDiff, Nat.reduceLT, reduceIte, Prod.mk.injEq, eq_self, false_and, and_false, reduceCtorEq, Nat.reduceSub, List.reverse_cons, List.reverse_nil, List.nil_append, List.cons_append, Option.toList_some, Option.toList_none, not_true_eq_false, not_false_eq_true]
  refine KW_callS hC (by decide +kernel) kl5_19 (by decide) ((s_isWithin (km D G) p 1 500)) rfl rfl (by simp [kOkL, kOk, hx]) (by simp [kOkS]) (Nat.le_of_ble_eq_true rfl) (Nat.le_of_ble_eq_true rfl) (Nat.le_of_ble_eq_true rfl) ?_
  rintro v M' ⟨rfl, rfl⟩
  refine kwX5_needs_8 hC hE ?_
  simp only [kbX5_needs_8, mX5_needs, kblk, kstp, kent, kpad, kget, kst1, kst2, kc2, cond_false, cond_true, kfv, kfit, kOkf, kputv, kputD, kputG, kcpy, kcat, kRR, kNN, true_and, and_true, if_true, if_false, if_pos, Nat.reduceAdd, Nat.reduceEqDiff, Nat.reduceLeDiff, Nat.reduceLT, reduceIte, Prod.mk.injEq, eq_self, false_and, and_false, reduceCtorEq, Nat.reduceSub, List.reverse_cons, List.reverse_nil, List.nil_append, List.cons_append, Option.toList_some, Option.toList_none, not_true_eq_false, not_false_eq_true]
  refine ⟨fun h => no (fun z => b01_0 h z.1), fun h => ?_⟩
  have hp := b01_1 h
  refine kwX5_needs_11 hC hE ?_
  simp only [kbX5_needs_11, mX5_needs, kblk, kstp, kent, kpad, kget, kst1, kst2, kc2, cond_false, cond_true, kfv, kfit, kOkf, kputv, kputD, kputG, kcpy, kcat, kRR, kNN, true_and, and_true, if_true, if_false, if_pos, Nat.reduceAdd, Nat.reduceEqDiff, Nat.reduceLeDiff, Nat.reduceLT, reduceIte, Prod.mk.injEq, eq_self, false_and, and_false, reduceCtorEq, Nat.reduceSub, List.reverse_cons, List.reverse_nil, List.nil_append, List.cons_append, Option.toList_some, Option.toList_none, not_true_eq_false, not_false_eq_true]
  refine KW_callS hC (by decide +kernel) kl5_19 (by decide) ((s_isWithin (km D G) s 1 100)) rfl rfl (by simp [kOkL, kOk, hx]) (by simp [kOkS]) (Nat.le_of_ble_eq_true rfl) (Nat.le_of_ble_eq_true rfl) (Nat.le_of_ble_eq_true rfl) ?_
  rintro v M' ⟨rfl, rfl⟩
  refine kwX5_needs_18 hC hE ?_
  simp only [kbX5_needs_18, mX5_needs, kblk, kstp, kent, kpad, kget, kst1, kst2, kc2, cond_false, cond_true, kfv, kfit, kOkf, kputv, kputD, kputG, kcpy, kcat, kRR, kNN, true_and, and_true, if_true, if_false, if_pos, Nat.reduceAdd, Nat.reduceEqDiff, Nat.reduceLeDiff, Nat.reduceLT, reduceIte, Prod.mk.injEq, eq_self, false_and, and_false, reduceCtorEq, Nat.reduceSub, List.reverse_cons, List.reverse_nil, List.nil_append, List.cons_append, Option.toList_some, Option.toList_none, not_true_eq_false, not_false_eq_true]
  refine ⟨fun h => no (fun z => b01_0 h z.2), fun h => ?_⟩
  have hk := b01_1 h
  refine kwX5_needs_21 hC hE ?_
  simp only [kbX5_needs_21, mX5_needs, kblk, kstp, kent, kpad, kget, kst1, kst2, kc2, cond_false, cond_true, kfv, kfit, kOkf, kputv, kputD, kputG, kcpy, kcat, kRR, kNN, true_and, and_true, if_true, if_false, if_pos, Nat.reduceAdd, Nat.reduceEqDiff, Nat.reduceLeDiff, Nat.reduceLT, reduceIte, Prod.mk.injEq, eq_self, false_and, and_false, reduceCtorEq, Nat.reduceSub, List.reverse_cons, List.reverse_nil, List.nil_append, List.cons_append, Option.toList_some, Option.toList_none, not_true_eq_false, not_false_eq_true]
  refine KW_callSX hC hCX (by decide +kernel) kl5_23 (by decide) ((s_requireArgument (km D G) 1)) rfl rfl (by simp [kOkL, kOk, hx]) (by simp [kOkS]) (Nat.le_of_ble_eq_true rfl) (Nat.le_of_ble_eq_true rfl) (Nat.le_of_ble_eq_true rfl) ?_ ?_
  · rintro v M' ⟨rfl, rfl, h⟩
    obtain ⟨k, k1, k2, rfl⟩ := in_within (a := 1) (b := 100) (by decide) hk (by decide)
    have loop : ∀ (m i : Nat) (D' : KI → Nat → Int32), i + m = tC σ + 1 → kOff 1 D' D → tNeeds σ p k m i = tNeeds σ p k (tC σ + 1) 0 → KW X 31 [some (kR (some (5, 9, 0))), some (kI p), some (kI (nI k)), some (kI (nI i))] [] (km D' G) 1 6 := by
      intro m
      induction m with
      | zero =>
        intro i D' him ho he
        have c5 := (hr.off (by decide) ho).old.1.1
        refine kwX5_needs_31 hC hE ?_
        simp only [kbX5_needs_31, mX5_needs, kblk, kstp, kent, kpad, kget, kst1, kst2, kc2, cond_false, cond_true, kfv, kfit, kOkf, kputv, kputD, kputG, kcpy, kcat, kRR, kNN, true_and, and_true, if_true, if_false, if_pos, Nat.reduceAdd, Nat.reduceEqDiff, Nat.reduceLeDiff, Nat.reduceLT, reduceIte, Prod.mk.injEq, eq_self, false_and, and_false, reduceCtorEq, Nat.reduceSub, List.reverse_cons, List.reverse_nil, List.nil_append, List.cons_append, Option.toList_some, Option.toList_none, not_true_eq_false, not_false_eq_true, hx, hlive, c5]
        refine ⟨fun _ => ?_, fun h => absurd (nI_lt (show tC σ < i by omega) (by omega)) h⟩
        refine kwX5_needs_81 hC hE ?_
        simp only [kbX5_needs_81, mX5_needs, kblk, kstp, kent, kpad, kget, kst1, kst2, kc2, cond_false, cond_true, kfv, kfit, kOkf, kputv, kputD, kputG, kcpy, kcat, kRR, kNN, true_and, and_true, if_true, if_false, if_pos, Nat.reduceAdd, Nat.reduceEqDiff, Nat.reduceLeDiff, Nat.reduceLT, reduceIte, Prod.mk.injEq, eq_self, false_and, and_false, reduceCtorEq, Nat.reduceSub, List.reverse_cons, List.reverse_nil, List.nil_append, List.cons_append, Option.toList_some, Option.toList_none, not_true_eq_false, not_false_eq_true]
        exact ⟨⟨⟨k, k1, k2, rfl, hp, by rw [← he]; rfl⟩, D', rfl, hr.off (by decide) ho, fun i _ h => ho i h⟩, trivial, Nat.le_refl _, Nat.le_refl _⟩
      | succ m ih =>
        intro i D' him ho he
        have hr' := hr.off (by decide) ho
        have c5 := hr'.old.1.1
        simp only [tNeeds] at he
        refine kwX5_needs_31 hC hE ?_
        simp only [kbX5_needs_31, mX5_needs, kblk, kstp, kent, kpad, kget, kst1, kst2, kc2, cond_false, cond_true, kfv, kfit, kOkf, kputv, kputD, kputG, kcpy, kcat, kRR, kNN, true_and, and_true, if_true, if_false, if_pos, Nat.reduceAdd, Nat.reduceEqDiff, Nat.reduceLeDiff, Nat.reduceLT, reduceIte, Prod.mk.injEq, eq_self, false_and, and_false, reduceCtorEq, Nat.reduceSub, List.reverse_cons, List.reverse_nil, List.nil_append, List.cons_append, Option.toList_some, Option.toList_none, not_true_eq_false, not_false_eq_true, hx, hlive, c5]
        refine ⟨fun h => absurd (nI_ltr (by omega) (by omega) h) (by omega), fun _ => ?_⟩
        refine kwX5_needs_42 hC hE ?_
        simp only [kbX5_needs_42, mX5_needs, kblk, kstp, kent, kpad, kget, kst1, kst2, kc2, cond_false, cond_true, kfv, kfit, kOkf, kputv, kputD, kputG, kcpy, kcat, kRR, kNN, true_and, and_true, if_true, if_false, if_pos, Nat.reduceAdd, Nat.reduceEqDiff, Nat.reduceLeDiff, Nat.reduceLT, reduceIte, Prod.mk.injEq, eq_self, false_and, and_false, reduceCtorEq, Nat.reduceSub, List.reverse_cons, List.reverse_nil, List.nil_append, List.cons_append, Option.toList_some, Option.toList_none, not_true_eq_false, not_false_eq_true, hx]
        refine KW_callV hC (by decide +kernel) kl5_145 (by decide) ((s_Lift_copy hr' hs hbool)) rfl rfl (Nat.le_of_ble_eq_true rfl) rfl hlive1 (by simp [kOkL, kOk, hx]) (by simp [kOkS]) (Nat.le_of_ble_eq_true rfl) (Nat.le_of_ble_eq_true rfl) (Nat.le_of_ble_eq_true rfl) ?_
        rintro v M' ⟨rfl, D1, rfl, hr1, ho1⟩
        refine kwX5_needs_53 hC hE ?_
        simp only [kbX5_needs_53, mX5_needs, kblk, kstp, kent, kpad, kget, kst1, kst2, kc2, cond_false, cond_true, kfv, kfit, kOkf, kputv, kputD, kputG, kcpy, kcat, kRR, kNN, true_and, and_true, if_true, if_false, if_pos, Nat.reduceAdd, Nat.reduceEqDiff, Nat.reduceLeDiff, Nat.reduceLT, reduceIte, Prod.mk.injEq, eq_self, false_and, and_false, reduceCtorEq, Nat.reduceSub, List.reverse_cons, List.reverse_nil, List.nil_append, List.cons_append, Option.toList_some, Option.toList_none, not_true_eq_false, not_false_eq_true, hx, hlive1]
        have hr2 := rep_scal hr1 9 (nI i) (by decide) (by decide)
        have hs2 : kS (tset σ 39 0 (nI i)) := hs.setf (by decide) (by decide) (by decide)
        refine KW_callV hC (by decide +kernel) kl5_141 (by decide) ((s_goSteps (by decide) hr2 hs2 (n := k) (by omega))) rfl rfl (Nat.le_of_ble_eq_true rfl) rfl hlive1 (by simp [kOkL, kOk, hx]) (by simp [kOkS]) (Nat.le_of_ble_eq_true rfl) (Nat.le_of_ble_eq_true rfl) (Nat.le_of_ble_eq_true rfl) ?_
        rintro v M' ⟨rfl, D2, rfl, hr3, ho3⟩
        have hoo : kOff 1 D2 D := ho3.trans (kOff.put.trans (ho1.trans ho))
        refine kwX5_needs_69 hC hE ?_
        simp only [kbX5_needs_69, mX5_needs, kblk, kstp, kent, kpad, kget, kst1, kst2, kc2, cond_false, cond_true, kfv, kfit, kOkf, kputv, kputD, kputG, kcpy, kcat, kRR, kNN, true_and, and_true, if_true, if_false, if_pos, Nat.reduceAdd, Nat.reduceEqDiff, Nat.reduceLeDiff, Nat.reduceLT, reduceIte, Prod.mk.injEq, eq_self, false_and, and_false, reduceCtorEq, Nat.reduceSub, List.reverse_cons, List.reverse_nil, List.nil_append, List.cons_append, Option.toList_some, Option.toList_none, not_true_eq_false, not_false_eq_true]
        refine ⟨fun h => ?_, fun h => ?_⟩
        · rw [if_neg (Int32.not_le.mpr h)] at he
          refine kwX5_needs_75 hC hE ?_
          simp only [kbX5_needs_75, mX5_needs, kblk, kstp, kent, kpad, kget, kst1, kst2, kc2, cond_false, cond_true, kfv, kfit, kOkf, kputv, kputD, kputG, kcpy, kcat, kRR, kNN, true_and, and_true, if_true, if_false, if_pos, Nat.reduceAdd, Nat.reduceEqDiff, Nat.reduceLeDiff, Nat.reduceLT, reduceIte, Prod.mk.injEq, eq_self, false_and, and_false, reduceCtorEq, Nat.reduceSub, List.reverse_cons, List.reverse_nil, List.nil_append, List.cons_append, Option.toList_some, Option.toList_none, not_true_eq_false, not_false_eq_true, nI_1]
          exact ih (i + 1) D2 (by omega) hoo he
        · rw [if_pos (Int32.not_lt.mp h)] at he
          refine kwX5_needs_73 hC hE ?_
          simp only [kbX5_needs_73, mX5_needs, kblk, kstp, kent, kpad, kget, kst1, kst2, kc2, cond_false, cond_true, kfv, kfit, kOkf, kputv, kputD, kputG, kcpy, kcat, kRR, kNN, true_and, and_true, if_true, if_false, if_pos, Nat.reduceAdd, Nat.reduceEqDiff, Nat.reduceLeDiff, Nat.reduceLT, reduceIte, Prod.mk.injEq, eq_self, false_and, and_false, reduceCtorEq, Nat.reduceSub, List.reverse_cons, List.reverse_nil, List.nil_append, List.cons_append, Option.toList_some, Option.toList_none, not_true_eq_false, not_false_eq_true]
          exact ⟨⟨⟨k, k1, k2, rfl, hp, congrArg (fun x => some (kI x)) he⟩, D2, rfl, hr.off (by decide) hoo, fun i _ h => hoo i h⟩, trivial, Nat.le_refl _, Nat.le_refl _⟩
    refine kwX5_needs_29 hC hE ?_
    simp only [kbX5_needs_29, mX5_needs, kblk, kstp, kent, kpad, kget, kst1, kst2, kc2, cond_false, cond_true, kfv, kfit, kOkf, kputv, kputD, kputG, kcpy, kcat, kRR, kNN, true_and, and_true, if_true, if_false, if_pos, Nat.reduceAdd, Nat.reduceEqDiff, Nat.reduceLeDiff, Nat.reduceLT, reduceIte, Prod.mk.injEq, eq_self, false_and, and_false, reduceCtorEq, Nat.reduceSub, List.reverse_cons, List.reverse_nil, List.nil_append, List.cons_append, Option.toList_some, Option.toList_none, not_true_eq_false, not_false_eq_true]
    exact loop (tC σ + 1) 0 D (by omega) kOff.refl rfl
  · rintro E M' ⟨rfl, rfl, h⟩
    exact absurd h (by decide)
theorem s_advise (hr : kRep 0 D σ) (hs : kS σ) (hbool : ∀ l, l < tL σ → tZ σ 21 l = 0 ∨ tZ σ 21 l = 1) (hG : tG σ ≤ 90) (z : Int32) : SpX mX5_advise 1 6 [kR (some (5, 9, 0)), kI z] (km D G) (fun v M' => ((1 ≤ z ∧ z ≤ 6) ∧ v = some (kI (tAdv σ z (tL σ) 0 (-1) 200))) ∧ kPub D G σ M') (fun E M' => (E = kIAE ∧ ¬ (1 ≤ z ∧ z ≤ 6)) ∧ M' = km D G) := by
  refine SpX_of (own := 5) (by decide +kernel) rfl (Nat.le_of_ble_eq_true rfl) ?_
  intro X hC hCX hE hL0 hTw hTh
  have hx := kx_live
  have hlive : kLive (3, 0, 0) := ⟨by decide, rfl⟩
  have hlive1 : kLive (3, 1, 0) := ⟨by decide, rfl⟩
  have hc11 : kLive (11, 0, 0) := ⟨by decide, rfl⟩
  obtain ⟨bC, bL, bG⟩ := hr.1
  refine kwX5_advise_0 hC hE ?_
  simp only [kbX5_advise_0, mX5_advise, kblk, kstp, kent, kpad, kget, kst1, kst2, kc2, cond_false, cond_true, kfv, kfit, kOkf, kputv, kputD, kputG, kcpy, kcat, kRR, kNN, true_and, and_true, if_true, if_false, if_pos, Nat.reduceAdd, Nat.reduceEqDiff, Nat.reduceLeDiff, Nat.reduceLT, reduceIte, Prod.mk.injEq, eq_self, false_and, and_false, reduceCtorEq, Nat.reduceSub, List.reverse_cons, List.reverse_nil, List.nil_append, List.cons_append, Option.toList_some, Option.toList_none, not_true_eq_false, not_false_eq_true]
  refine KW_callS hC (by decide +kernel) kl5_19 (by decide) ((s_isWithin (km D G) z 1 6)) rfl rfl (by simp [kOkL, kOk, hx]) (by simp [kOkS]) (Nat.le_of_ble_eq_true rfl) (Nat.le_of_ble_eq_true rfl) (Nat.le_of_ble_eq_true rfl) ?_
  rintro v M' ⟨rfl, rfl⟩
  refine KW_callSX hC hCX (by decide +kernel) kl5_23 (by decide) ((s_requireArgument (km D G) _)) rfl rfl (by simp [kOkL, kOk, hx]) (by simp [kOkS]) (Nat.le_of_ble_eq_true rfl) (Nat.le_of_ble_eq_true rfl) (Nat.le_of_ble_eq_true rfl) ?_ ?_
  · rintro v M' ⟨rfl, rfl, h⟩
    have hz := b01_1 h
    have loop : ∀ (m i : Nat) (best : Int32) (lm : Nat) (D' : KI → Nat → Int32), i + m = tL σ → lm ≤ 200 → kOff 1 D' D → tAdv σ z m i best lm = tAdv σ z (tL σ) 0 (-1) 200 → KW X 19 [some (kR (some (5, 9, 0))), some (kI z), some (kI best), some (kI (nI lm)), some (kI (nI i)), none, none] [] (km D' G) 1 6 := by
      intro m
      induction m with
      | zero =>
        intro i best lm D' him hlm ho he
        have hi : i = tL σ := by omega
        subst hi
        have c6 := (hr.off (by decide) ho).old.1.2.1
        refine kwX5_advise_19 hC hE ?_
        simp only [kbX5_advise_19, mX5_advise, kblk, kstp, kent, kpad, kget, kst1, kst2, kc2, cond_false, cond_true, kfv, kfit, kOkf, kputv, kputD, kputG, kcpy, kcat, kRR, kNN, true_and, and_true, if_true, if_false, if_pos, Nat.reduceAdd, Nat.reduceEqDiff, Nat.reduceLeDiff, Nat.reduceLT, reduceIte, Prod.mk.injEq, eq_self, false_and, and_false, reduceCtorEq, Nat.reduceSub, List.reverse_cons, List.reverse_nil, List.nil_append, List.cons_append, Option.toList_some, Option.toList_none, not_true_eq_false, not_false_eq_true, hx, hlive, c6]
        refine ⟨fun _ => ?_, fun h => absurd (nI_le (Nat.le_refl _) (by omega)) h⟩
        refine kwX5_advise_108 hC hE ?_
        simp only [kbX5_advise_108, mX5_advise, kblk, kstp, kent, kpad, kget, kst1, kst2, kc2, cond_false, cond_true, kfv, kfit, kOkf, kputv, kputD, kputG, kcpy, kcat, kRR, kNN, true_and, and_true, if_true, if_false, if_pos, Nat.reduceAdd, Nat.reduceEqDiff, Nat.reduceLeDiff, Nat.reduceLT, reduceIte, Prod.mk.injEq, eq_self, false_and, and_false, reduceCtorEq, Nat.reduceSub, List.reverse_cons, List.reverse_nil, List.nil_append, List.cons_append, Option.toList_some, Option.toList_none, not_true_eq_false, not_false_eq_true]
        exact ⟨⟨⟨hz, by rw [← he]; rfl⟩, D', rfl, hr.off (by decide) ho, fun i _ h => ho i h⟩, trivial, Nat.le_refl _, Nat.le_refl _⟩
      | succ m ih =>
        intro i best lm D' him hlm ho he
        have hr' := hr.off (by decide) ho
        have hi : i < tL σ := by omega
        have hi4 : i < 4 := by omega
        have hll : kLive (2, 0, i) := ⟨by decide, hi4⟩
        have hcl := nI_clamp (show i < 2 ^ 31 by omega)
        have c6 := hr'.old.1.2.1
        have q1 := hr'.old.2.2.2.2.1 i hi 1 (by decide) (by decide)
        simp only [tAdv] at he
        have next : ∀ (best2 : Int32) (lm2 : Nat) (D2 : KI → Nat → Int32), lm2 ≤ 200 → kOff 1 D2 D → tAdv σ z m (i + 1) best2 lm2 = tAdv σ z (tL σ) 0 (-1) 200 → KW X 102 [some (kR (some (5, 9, 0))), some (kI z), some (kI best2), some (kI (nI lm2)), some (kI (nI i)), none, none] [] (km D2 G) 1 6 := by
          intro best2 lm2 D2 h1 h2 h3
          refine kwX5_advise_102 hC hE ?_
          simp only [kbX5_advise_102, mX5_advise, kblk, kstp, kent, kpad, kget, kst1, kst2, kc2, cond_false, cond_true, kfv, kfit, kOkf, kputv, kputD, kputG, kcpy, kcat, kRR, kNN, true_and, and_true, if_true, if_false, if_pos, Nat.reduceAdd, Nat.reduceEqDiff, Nat.reduceLeDiff, Nat.reduceLT, reduceIte, Prod.mk.injEq, eq_self, false_and, and_false, reduceCtorEq, Nat.reduceSub, List.reverse_cons, List.reverse_nil, List.nil_append, List.cons_append, Option.toList_some, Option.toList_none, not_true_eq_false, not_false_eq_true, nI_1]
          exact ih (i + 1) best2 lm2 D2 (by omega) h1 h2 h3
        refine kwX5_advise_19 hC hE ?_
        simp only [kbX5_advise_19, mX5_advise, kblk, kstp, kent, kpad, kget, kst1, kst2, kc2, cond_false, cond_true, kfv, kfit, kOkf, kputv, kputD, kputG, kcpy, kcat, kRR, kNN, true_and, and_true, if_true, if_false, if_pos, Nat.reduceAdd, Nat.reduceEqDiff, Nat.reduceLeDiff, Nat.reduceLT, reduceIte, Prod.mk.injEq, eq_self, false_and, and_false, reduceCtorEq, Nat.reduceSub, List.reverse_cons, List.reverse_nil, List.nil_append, List.cons_append, Option.toList_some, Option.toList_none, not_true_eq_false, not_false_eq_true, hx, hlive, c6]
        refine ⟨fun h => absurd h (nI_ge hi (by omega)), fun _ => ?_⟩
        refine kwX5_advise_31 hC hE ?_
        simp only [kbX5_advise_31, mX5_advise, kblk, kstp, kent, kpad, kget, kst1, kst2, kc2, cond_false, cond_true, kfv, kfit, kOkf, kputv, kputD, kputG, kcpy, kcat, kRR, kNN, true_and, and_true, if_true, if_false, if_pos, Nat.reduceAdd, Nat.reduceEqDiff, Nat.reduceLeDiff, Nat.reduceLT, reduceIte, Prod.mk.injEq, eq_self, false_and, and_false, reduceCtorEq, Nat.reduceSub, List.reverse_cons, List.reverse_nil, List.nil_append, List.cons_append, Option.toList_some, Option.toList_none, not_true_eq_false, not_false_eq_true, hx, hlive, hc11, hll, hcl, hi4, q1, true_or, or_true]
        refine ⟨vp_in_nI hi4 (by omega), fun h => ?_, fun h => ?_⟩
        · have h' : tZ σ 21 i = 0 := h
          rw [if_pos h'] at he
          refine kwX5_advise_50 hC hE ?_
          simp only [kbX5_advise_50, mX5_advise, kblk, kstp, kent, kpad, kget, kst1, kst2, kc2, cond_false, cond_true, kfv, kfit, kOkf, kputv, kputD, kputG, kcpy, kcat, kRR, kNN, true_and, and_true, if_true, if_false, if_pos, Nat.reduceAdd, Nat.reduceEqDiff, Nat.reduceLeDiff, Nat.reduceLT, reduceIte, Prod.mk.injEq, eq_self, false_and, and_false, reduceCtorEq, Nat.reduceSub, List.reverse_cons, List.reverse_nil, List.nil_append, List.cons_append, Option.toList_some, Option.toList_none, not_true_eq_false, not_false_eq_true, hx]
          refine KW_callV hC (by decide +kernel) kl5_145 (by decide) ((s_Lift_copy hr' hs hbool)) rfl rfl (Nat.le_of_ble_eq_true rfl) rfl hlive1 (by simp [kOkL, kOk, hx]) (by simp [kOkS]) (Nat.le_of_ble_eq_true rfl) (Nat.le_of_ble_eq_true rfl) (Nat.le_of_ble_eq_true rfl) ?_
          rintro v M' ⟨rfl, D1, rfl, hr1, ho1⟩
          refine kwX5_advise_61 hC hE ?_
          simp only [kbX5_advise_61, mX5_advise, kblk, kstp, kent, kpad, kget, kst1, kst2, kc2, cond_false, cond_true, kfv, kfit, kOkf, kputv, kputD, kputG, kcpy, kcat, kRR, kNN, true_and, and_true, if_true, if_false, if_pos, Nat.reduceAdd, Nat.reduceEqDiff, Nat.reduceLeDiff, Nat.reduceLT, reduceIte, Prod.mk.injEq, eq_self, false_and, and_false, reduceCtorEq, Nat.reduceSub, List.reverse_cons, List.reverse_nil, List.nil_append, List.cons_append, Option.toList_some, Option.toList_none, not_true_eq_false, not_false_eq_true, hx]
          refine KW_callV hC (by decide +kernel) kl5_82 (by decide) ((s_makeGroup1 hr1 hs (by omega) hi z 200)) rfl rfl (Nat.le_of_ble_eq_true rfl) rfl hlive1 (by simp [kOkL, kOk, hx]) (by simp [kOkS]) (Nat.le_of_ble_eq_true rfl) (Nat.le_of_ble_eq_true rfl) (Nat.le_of_ble_eq_true rfl) ?_
          rintro v M' ⟨rfl, D2, rfl, hr2, ho2⟩
          have hs2 := hs.newGroup (by omega) hi z 200
          refine kwX5_advise_74 hC hE ?_
          simp only [kbX5_advise_74, mX5_advise, kblk, kstp, kent, kpad, kget, kst1, kst2, kc2, cond_false, cond_true, kfv, kfit, kOkf, kputv, kputD, kputG, kcpy, kcat, kRR, kNN, true_and, and_true, if_true, if_false, if_pos, Nat.reduceAdd, Nat.reduceEqDiff, Nat.reduceLeDiff, Nat.reduceLT, reduceIte, Prod.mk.injEq, eq_self, false_and, and_false, reduceCtorEq, Nat.reduceSub, List.reverse_cons, List.reverse_nil, List.nil_append, List.cons_append, Option.toList_some, Option.toList_none, not_true_eq_false, not_false_eq_true, hx]
          refine KW_callV hC (by decide +kernel) kl5_155 (by decide) ((s_stepsUntilUp (by decide) hr2 hs2 (g := tG σ) (n := lm) (by show tG σ < tG σ + 1; omega) (by omega))) rfl rfl (Nat.le_of_ble_eq_true rfl) rfl hlive1 (by simp [kOkL, kOk, hx]) (by simp [kOkS]) (Nat.le_of_ble_eq_true rfl) (Nat.le_of_ble_eq_true rfl) (Nat.le_of_ble_eq_true rfl) ?_
          rintro v M' ⟨rfl, σ3, D3, rfl, hr3, ho3⟩
          have hoo : kOff 1 D3 D := ho3.trans (ho2.trans (ho1.trans ho))
          refine kwX5_advise_86 hC hE ?_
          simp only [kbX5_advise_86, mX5_advise, kblk, kstp, kent, kpad, kget, kst1, kst2, kc2, cond_false, cond_true, kfv, kfit, kOkf, kputv, kputD, kputG, kcpy, kcat, kRR, kNN, true_and, and_true, if_true, if_false, if_pos, Nat.reduceAdd, Nat.reduceEqDiff, Nat.reduceLeDiff, Nat.reduceLT, reduceIte, Prod.mk.injEq, eq_self, false_and, and_false, reduceCtorEq, Nat.reduceSub, List.reverse_cons, List.reverse_nil, List.nil_append, List.cons_append, Option.toList_some, Option.toList_none, not_true_eq_false, not_false_eq_true]
          rcases until_spec (g := tG σ) lm 1 (mkGroup σ i z 200) with hu | ⟨k, k1, k2, hu⟩
          · rw [hu] at he ⊢
            rw [if_pos rfl] at he
            exact ⟨fun _ => KW.le (by simp [kLE]) (next best lm D3 hlm hoo he), fun h => absurd rfl h⟩
          · have hne : ¬ nI k = -1 := nI_m1 (by omega)
            rw [hu, if_neg hne, nI_clamp (by omega)] at he
            rw [hu]
            refine ⟨fun h => absurd h hne, fun _ => ?_⟩
            refine kwX5_advise_94 hC hE ?_
            simp only [kbX5_advise_94, mX5_advise, kblk, kstp, kent, kpad, kget, kst1, kst2, kc2, cond_false, cond_true, kfv, kfit, kOkf, kputv, kputD, kputG, kcpy, kcat, kRR, kNN, true_and, and_true, if_true, if_false, if_pos, Nat.reduceAdd, Nat.reduceEqDiff, Nat.reduceLeDiff, Nat.reduceLT, reduceIte, Prod.mk.injEq, eq_self, false_and, and_false, reduceCtorEq, Nat.reduceSub, List.reverse_cons, List.reverse_nil, List.nil_append, List.cons_append, Option.toList_some, Option.toList_none, not_true_eq_false, not_false_eq_true]
            have ek : nI k - 1 = nI (k - 1) := by
              have : nI k = nI (k - 1) + 1 := by rw [nI_1]; congr 1; omega
              rw [this]
              exact Int32.add_sub_cancel _ _
            rw [ek]
            exact KW.le (by simp [kLE]) (next (nI i) (k - 1) D3 (by omega) hoo he)
        · have h' : ¬ tZ σ 21 i = 0 := h
          rw [if_neg h'] at he
          refine kwX5_advise_47 hC hE ?_
          simp only [kbX5_advise_47, mX5_advise, kblk, kstp, kent, kpad, kget, kst1, kst2, kc2, cond_false, cond_true, kfv, kfit, kOkf, kputv, kputD, kputG, kcpy, kcat, kRR, kNN, true_and, and_true, if_true, if_false, if_pos, Nat.reduceAdd, Nat.reduceEqDiff, Nat.reduceLeDiff, Nat.reduceLT, reduceIte, Prod.mk.injEq, eq_self, false_and, and_false, reduceCtorEq, Nat.reduceSub, List.reverse_cons, List.reverse_nil, List.nil_append, List.cons_append, Option.toList_some, Option.toList_none, not_true_eq_false, not_false_eq_true]
          exact next best lm D' hlm ho he
    refine kwX5_advise_10 hC hE ?_
    simp only [kbX5_advise_10, mX5_advise, kblk, kstp, kent, kpad, kget, kst1, kst2, kc2, cond_false, cond_true, kfv, kfit, kOkf, kputv, kputD, kputG, kcpy, kcat, kRR, kNN, true_and, and_true, if_true, if_false, if_pos, Nat.reduceAdd, Nat.reduceEqDiff, Nat.reduceLeDiff, Nat.reduceLT, reduceIte, Prod.mk.injEq, eq_self, false_and, and_false, reduceCtorEq, Nat.reduceSub, List.reverse_cons, List.reverse_nil, List.nil_append, List.cons_append, Option.toList_some, Option.toList_none, not_true_eq_false, not_false_eq_true]
    exact loop (tL σ) 0 (-1) 200 D (by omega) (by decide) kOff.refl rfl
  · rintro E M' ⟨rfl, rfl, h⟩
    exact hTw _ _ _ _ _ ⟨⟨rfl, b01_0 h⟩, rfl⟩ (Nat.le_refl _) (Nat.le_refl _)
end LIFT7

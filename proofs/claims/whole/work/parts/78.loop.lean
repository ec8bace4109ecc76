/-! The law: shut, mean, digest; its loop. -/
section CASES2
variable {X : KX} {L : Nat} {xs : Nat → Int32} {E : KEnd} {D : KI → Nat → Int32} {G : KI → Nat → Int64} {σ : KT} {b0 h0 i cs sl : Nat}
theorem rShut_01 (hbool : ∀ l, l < tL σ → tZ σ 21 l = 0 ∨ tZ σ 21 l = 1) (hL : tL σ ≤ 4) (c b : Int32) : (rShut σ c b).2.1 = 0 ∨ (rShut σ c b).2.1 = 1 := by
  unfold rShut
  by_cases h : 0 ≤ c ∧ c < nI (tL σ)
  · rw [if_pos h]
    exact hbool _ (clamp_lt h (by omega))
  · rw [if_neg h]; exact Or.inl rfl
theorem case_shut (hC : KC X mL_law 8 false (some (L, xs)) 601024 7293034) (hCX : KCX X) (hE : KRet X mL_law E) (hL : L ≤ 2048) (hi : i + 4 ≤ L) (hr : kRep 0 D σ) (ht : mTop D σ) (hm : mSt 2 D σ) (hw : kWf0 b0 h0 0 h0 σ) (hG : tG σ ≤ 90) (hb : b0 ≤ 110000) (hcs : cs + 852 ≤ 601024) (hsl : sl + 6520 ≤ 7293034) (next : lNext X b0 i cs sl) : KW X 352 [some (kR (some (13, 0, 0))), some (kR (some (5, 9, 0))), some (kR (some (7, 4, 0))), some (kR (some (12, 9, 0))), some (kI (nI i)), none, none, none, none] [] (km D G) cs sl := by
  have hs := hw.1
  have hbool := hw.2.2.2.2.2.2
  have hfresh : tC σ < 20 → tZ σ 1 (tC σ) = -1 ∧ tZ σ 4 (tC σ) = 0 := fun h => ⟨(hw.2.2.2.2.2.1.1 _ (Nat.le_refl _) h).1, (hw.2.2.2.2.2.1.1 _ (Nat.le_refl _) h).2.2.2⟩
  obtain ⟨bC, bL, bG, -⟩ := hw.1.1
  have hx5 := kx_live
  have h7 := mLive7
  have hx12 := kx12_live
  have e1 : nI i + 1 = nI (i + 1) := nI_add i 1
  have e2 : nI i + 2 = nI (i + 2) := nI_add i 2
  have e3 : nI i + 3 = nI (i + 3) := nI_add i 3
  have c1 := nI_clamp (show i + 1 < 2 ^ 31 by omega)
  have c2 := nI_clamp (show i + 2 < 2 ^ 31 by omega)
  have c3 := nI_clamp (show i + 3 < 2 ^ 31 by omega)
  have v1 : vp_in (nI (i + 1)) L := vp_in_nI (show i + 1 < L by omega) (by omega)
  have v2 : vp_in (nI (i + 2)) L := vp_in_nI (show i + 2 < L by omega) (by omega)
  have v3 : vp_in (nI (i + 3)) L := vp_in_nI (show i + 3 < L by omega) (by omega)
  have at373 : ∀ b : Int32, (b = 0 ∨ b = 1) → (b = if xs (i + 2) = 0 then 0 else 1) → KW X 373 [some (kR (some (13, 0, 0))), some (kR (some (5, 9, 0))), some (kR (some (7, 4, 0))), some (kR (some (12, 9, 0))), some (kI (nI i)), none, none, none, none] [kI b, kI (xs (i + 1)), kR (some (5, 9, 0))] (km D G) cs sl := by
    intro b hb01 hbe
    have hwf := w_shut hw hG (b2 := b0 + 200) (Nat.le_refl _) (xs (i + 1)) b hb01
    have h01 := rShut_01 hbool bL (xs (i + 1)) b
    generalize hrr : rShut σ (xs (i + 1)) b = r at hwf h01
    have fin : ∀ (D2 : KI → Nat → Int32) (G2 : KI → Nat → Int64) (a b : Int32), kRep 0 D2 r.2.2 → mTop D2 r.2.2 → mSt 2 D2 r.2.2 → KW X 440 [some (kR (some (13, 0, 0))), some (kR (some (5, 9, 0))), some (kR (some (7, 4, 0))), some (kR (some (12, 9, 0))), some (kI (nI i)), some (kI a), some (kI b), none, none] [] (km D2 G2) (cs + 1 + 0 + 0) (sl + 6 + 0 + 0) := by
      intro D2 G2 a b q1 q2 q3
      refine kwL_law_440 hC hE ?_
      simp only [kbL_law_440, mL_law, kblk, kstp, kent, kpad, kget, kst1, kst2, kc2, cond_false, cond_true, kfv, kfit, kOkf, kputv, kputD, kputG, kcpy, kcat, kRR, kNN, true_and, and_true, if_true, if_false, if_pos, Nat.reduceAdd, Nat.reduceEqDiff, Nat.reduceLeDiff, Nat.reduceLT, reduceIte, Prod.mk.injEq, eq_self, false_and, and_false, reduceCtorEq, Nat.reduceSub, List.reverse_cons, List.reverse_nil, List.nil_append, List.cons_append, Option.toList_some, Option.toList_none, not_true_eq_false, not_false_eq_true]
      exact KW.widen (by omega) (by omega) (KW.le (by simp [kLE]) (next D2 G2 r.2.2 q1 q2 q3 hwf))
    refine kwL_law_373 hC hE ?_
    simp only [kbL_law_373, mL_law, kblk, kstp, kent, kpad, kget, kst1, kst2, kc2, cond_false, cond_true, kfv, kfit, kOkf, kputv, kputD, kputG, kcpy, kcat, kRR, kNN, true_and, and_true, if_true, if_false, if_pos, Nat.reduceAdd, Nat.reduceEqDiff, Nat.reduceLeDiff, Nat.reduceLT, reduceIte, Prod.mk.injEq, eq_self, false_and, and_false, reduceCtorEq, Nat.reduceSub, List.reverse_cons, List.reverse_nil, List.nil_append, List.cons_append, Option.toList_some, Option.toList_none, not_true_eq_false, not_false_eq_true]
    refine KW_callSW hC hCX (by decide +kernel) kl8_103 kcwL_shut (by decide) ((l_shut hr hw hG (xs (i + 1)) b hb01)) rfl rfl (by simp [kOkL, kOk, hx5, h7, hx12]) (by simp [kOkS, kOk, hx5, h7, hx12]) (Nat.le_of_ble_eq_true rfl) (by omega) (by omega) ?_
    rintro v M' ⟨rfl, D1, G1, rfl, hr1, ho1, hout⟩
    have ht1 := top_agree ht ho1
    have hm1 := st_agree hm ho1
    rw [hrr] at hr1 hout ⊢
    have at400 : KW X 400 [some (kR (some (13, 0, 0))), some (kR (some (5, 9, 0))), some (kR (some (7, 4, 0))), some (kR (some (12, 9, 0))), some (kI (nI i)), some (kI r.1), none, none, none] [kI b, kI (xs (i + 1)), kR (some (7, 4, 0))] (km D1 G1) (cs + 1) (sl + 6) := by
      refine KW_callV hC (by decide +kernel) kl8_106 (by decide) ((m7_shut ht1 hm1 bL hbool (xs (i + 1)) b hb01)) rfl rfl (Nat.le_of_ble_eq_true rfl) rfl h7 (by simp [kOkL, kOk, hx5, h7, hx12]) (by simp [kOkS, kOk, hx5, h7, hx12]) (Nat.le_of_ble_eq_true rfl) (by omega) (by omega) ?_
      rintro v M' hq
      obtain ⟨⟨y, rfl, hy⟩, D2, rfl, hthr, ht2, hm2, ho2⟩ := n_shut hs hq
      rw [hrr] at hy hthr ht2 hm2
      have hr2 : kRep 0 D2 r.2.2 := rep_agree hr1 (fun j hj => ho2 j (Or.inl (by omega)))
      refine kwL_law_403 hC hE ?_
      simp only [kbL_law_403, mL_law, kblk, kstp, kent, kpad, kget, kst1, kst2, kc2, cond_false, cond_true, kfv, kfit, kOkf, kputv, kputD, kputG, kcpy, kcat, kRR, kNN, true_and, and_true, if_true, if_false, if_pos, Nat.reduceAdd, Nat.reduceEqDiff, Nat.reduceLeDiff, Nat.reduceLT, reduceIte, Prod.mk.injEq, eq_self, false_and, and_false, reduceCtorEq, Nat.reduceSub, List.reverse_cons, List.reverse_nil, List.nil_append, List.cons_append, Option.toList_some, Option.toList_none, not_true_eq_false, not_false_eq_true]
      refine KW_callV hC (by decide +kernel) kl8_90 (by decide) ((m7_thrown)) rfl rfl (Nat.le_of_ble_eq_true rfl) rfl h7 (by simp [kOkL, kOk, hx5, h7, hx12]) (by simp [kOkS, kOk, hx5, h7, hx12]) (Nat.le_of_ble_eq_true rfl) (by omega) (by omega) ?_
      rintro v M' ⟨rfl, rfl⟩
      rw [hthr]
      refine kwL_law_409 hC hE ?_
      simp only [kbL_law_409, mL_law, kblk, kstp, kent, kpad, kget, kst1, kst2, kc2, cond_false, cond_true, kfv, kfit, kOkf, kputv, kputD, kputG, kcpy, kcat, kRR, kNN, true_and, and_true, if_true, if_false, if_pos, Nat.reduceAdd, Nat.reduceEqDiff, Nat.reduceLeDiff, Nat.reduceLT, reduceIte, Prod.mk.injEq, eq_self, false_and, and_false, reduceCtorEq, Nat.reduceSub, List.reverse_cons, List.reverse_nil, List.nil_append, List.cons_append, Option.toList_some, Option.toList_none, not_true_eq_false, not_false_eq_true]
      refine ⟨fun _ => ?_, fun z => z.elim⟩
      refine kwL_law_416 hC hE ?_
      simp only [kbL_law_416, mL_law, kblk, kstp, kent, kpad, kget, kst1, kst2, kc2, cond_false, cond_true, kfv, kfit, kOkf, kputv, kputD, kputG, kcpy, kcat, kRR, kNN, true_and, and_true, if_true, if_false, if_pos, Nat.reduceAdd, Nat.reduceEqDiff, Nat.reduceLeDiff, Nat.reduceLT, reduceIte, Prod.mk.injEq, eq_self, false_and, and_false, reduceCtorEq, Nat.reduceSub, List.reverse_cons, List.reverse_nil, List.nil_append, List.cons_append, Option.toList_some, Option.toList_none, not_true_eq_false, not_false_eq_true]
      refine ⟨fun _ => fin D2 G1 _ _ hr2 ht2 hm2, fun z => ?_⟩
      have ho : G1 (12, 9, 0) 0 = y.toInt64 := by rw [hout z, hy z]
      rw [← hy z] at h01
      refine kwL_law_421 hC hE ?_
      simp only [kbL_law_421, mL_law, kblk, kstp, kent, kpad, kget, kst1, kst2, kc2, cond_false, cond_true, kfv, kfit, kOkf, kputv, kputD, kputG, kcpy, kcat, kRR, kNN, true_and, and_true, if_true, if_false, if_pos, Nat.reduceAdd, Nat.reduceEqDiff, Nat.reduceLeDiff, Nat.reduceLT, reduceIte, Prod.mk.injEq, eq_self, false_and, and_false, reduceCtorEq, Nat.reduceSub, List.reverse_cons, List.reverse_nil, List.nil_append, List.cons_append, Option.toList_some, Option.toList_none, not_true_eq_false, not_false_eq_true, hx12, cl0, ho]
      refine ⟨vp_in_nI (show 0 < 1 by decide) (by decide), fun y0 => ?_, fun y0 => ?_⟩
      · refine kwL_law_433 hC hE ?_
        simp only [kbL_law_433, mL_law, kblk, kstp, kent, kpad, kget, kst1, kst2, kc2, cond_false, cond_true, kfv, kfit, kOkf, kputv, kputD, kputG, kcpy, kcat, kRR, kNN, true_and, and_true, if_true, if_false, if_pos, Nat.reduceAdd, Nat.reduceEqDiff, Nat.reduceLeDiff, Nat.reduceLT, reduceIte, Prod.mk.injEq, eq_self, false_and, and_false, reduceCtorEq, Nat.reduceSub, List.reverse_cons, List.reverse_nil, List.nil_append, List.cons_append, Option.toList_some, Option.toList_none, not_true_eq_false, not_false_eq_true]
        have e : lg_cmp y.toInt64 0 = 0 := by rw [y0]; exact lg_self _
        refine kwL_law_434 hC hE ?_
        simp only [kbL_law_434, mL_law, kblk, kstp, kent, kpad, kget, kst1, kst2, kc2, cond_false, cond_true, kfv, kfit, kOkf, kputv, kputD, kputG, kcpy, kcat, kRR, kNN, true_and, and_true, if_true, if_false, if_pos, Nat.reduceAdd, Nat.reduceEqDiff, Nat.reduceLeDiff, Nat.reduceLT, reduceIte, Prod.mk.injEq, eq_self, false_and, and_false, reduceCtorEq, Nat.reduceSub, List.reverse_cons, List.reverse_nil, List.nil_append, List.cons_append, Option.toList_some, Option.toList_none, not_true_eq_false, not_false_eq_true, e]
        exact ⟨fun _ => fin D2 G1 _ _ hr2 ht2 hm2, fun z => z.elim⟩
      · refine kwL_law_429 hC hE ?_
        simp only [kbL_law_429, mL_law, kblk, kstp, kent, kpad, kget, kst1, kst2, kc2, cond_false, cond_true, kfv, kfit, kOkf, kputv, kputD, kputG, kcpy, kcat, kRR, kNN, true_and, and_true, if_true, if_false, if_pos, Nat.reduceAdd, Nat.reduceEqDiff, Nat.reduceLeDiff, Nat.reduceLT, reduceIte, Prod.mk.injEq, eq_self, false_and, and_false, reduceCtorEq, Nat.reduceSub, List.reverse_cons, List.reverse_nil, List.nil_append, List.cons_append, Option.toList_some, Option.toList_none, not_true_eq_false, not_false_eq_true]
        have y1 := h01.resolve_left y0
        have e : lg_cmp y.toInt64 1 = 0 := by rw [y1]; exact lg_self _
        refine kwL_law_434 hC hE ?_
        simp only [kbL_law_434, mL_law, kblk, kstp, kent, kpad, kget, kst1, kst2, kc2, cond_false, cond_true, kfv, kfit, kOkf, kputv, kputD, kputG, kcpy, kcat, kRR, kNN, true_and, and_true, if_true, if_false, if_pos, Nat.reduceAdd, Nat.reduceEqDiff, Nat.reduceLeDiff, Nat.reduceLT, reduceIte, Prod.mk.injEq, eq_self, false_and, and_false, reduceCtorEq, Nat.reduceSub, List.reverse_cons, List.reverse_nil, List.nil_append, List.cons_append, Option.toList_some, Option.toList_none, not_true_eq_false, not_false_eq_true, e]
        exact ⟨fun _ => fin D2 G1 _ _ hr2 ht2 hm2, fun z => z.elim⟩
    refine kwL_law_377 hC hE ?_
    simp only [kbL_law_377, mL_law, kblk, kstp, kent, kpad, kget, kst1, kst2, kc2, cond_false, cond_true, kfv, kfit, kOkf, kputv, kputD, kputG, kcpy, kcat, kRR, kNN, true_and, and_true, if_true, if_false, if_pos, Nat.reduceAdd, Nat.reduceEqDiff, Nat.reduceLeDiff, Nat.reduceLT, reduceIte, Prod.mk.injEq, eq_self, false_and, and_false, reduceCtorEq, Nat.reduceSub, List.reverse_cons, List.reverse_nil, List.nil_append, List.cons_append, Option.toList_some, Option.toList_none, not_true_eq_false, not_false_eq_true, e1, e2, e3, c1, c2, c3, nI_1]
    refine ⟨v1, v2, fun z => ?_, fun z => ?_⟩
    · refine kwL_law_399 hC hE ?_
      simp only [kbL_law_399, mL_law, kblk, kstp, kent, kpad, kget, kst1, kst2, kc2, cond_false, cond_true, kfv, kfit, kOkf, kputv, kputD, kputG, kcpy, kcat, kRR, kNN, true_and, and_true, if_true, if_false, if_pos, Nat.reduceAdd, Nat.reduceEqDiff, Nat.reduceLeDiff, Nat.reduceLT, reduceIte, Prod.mk.injEq, eq_self, false_and, and_false, reduceCtorEq, Nat.reduceSub, List.reverse_cons, List.reverse_nil, List.nil_append, List.cons_append, Option.toList_some, Option.toList_none, not_true_eq_false, not_false_eq_true]
      rw [if_pos z] at hbe
      rw [← hbe]
      exact at400
    · refine kwL_law_395 hC hE ?_
      simp only [kbL_law_395, mL_law, kblk, kstp, kent, kpad, kget, kst1, kst2, kc2, cond_false, cond_true, kfv, kfit, kOkf, kputv, kputD, kputG, kcpy, kcat, kRR, kNN, true_and, and_true, if_true, if_false, if_pos, Nat.reduceAdd, Nat.reduceEqDiff, Nat.reduceLeDiff, Nat.reduceLT, reduceIte, Prod.mk.injEq, eq_self, false_and, and_false, reduceCtorEq, Nat.reduceSub, List.reverse_cons, List.reverse_nil, List.nil_append, List.cons_append, Option.toList_some, Option.toList_none, not_true_eq_false, not_false_eq_true]
      rw [if_neg z] at hbe
      rw [← hbe]
      exact at400
  refine kwL_law_352 hC hE ?_
  simp only [kbL_law_352, mL_law, kblk, kstp, kent, kpad, kget, kst1, kst2, kc2, cond_false, cond_true, kfv, kfit, kOkf, kputv, kputD, kputG, kcpy, kcat, kRR, kNN, true_and, and_true, if_true, if_false, if_pos, Nat.reduceAdd, Nat.reduceEqDiff, Nat.reduceLeDiff, Nat.reduceLT, reduceIte, Prod.mk.injEq, eq_self, false_and, and_false, reduceCtorEq, Nat.reduceSub, List.reverse_cons, List.reverse_nil, List.nil_append, List.cons_append, Option.toList_some, Option.toList_none, not_true_eq_false, not_false_eq_true, e1, e2, e3, c1, c2, c3, nI_1]
  refine ⟨v1, v2, fun z => ?_, fun z => ?_⟩
  · refine kwL_law_372 hC hE ?_
    simp only [kbL_law_372, mL_law, kblk, kstp, kent, kpad, kget, kst1, kst2, kc2, cond_false, cond_true, kfv, kfit, kOkf, kputv, kputD, kputG, kcpy, kcat, kRR, kNN, true_and, and_true, if_true, if_false, if_pos, Nat.reduceAdd, Nat.reduceEqDiff, Nat.reduceLeDiff, Nat.reduceLT, reduceIte, Prod.mk.injEq, eq_self, false_and, and_false, reduceCtorEq, Nat.reduceSub, List.reverse_cons, List.reverse_nil, List.nil_append, List.cons_append, Option.toList_some, Option.toList_none, not_true_eq_false, not_false_eq_true]
    exact at373 0 (Or.inl rfl) (if_pos z).symm
  · refine kwL_law_368 hC hE ?_
    simp only [kbL_law_368, mL_law, kblk, kstp, kent, kpad, kget, kst1, kst2, kc2, cond_false, cond_true, kfv, kfit, kOkf, kputv, kputD, kputG, kcpy, kcat, kRR, kNN, true_and, and_true, if_true, if_false, if_pos, Nat.reduceAdd, Nat.reduceEqDiff, Nat.reduceLeDiff, Nat.reduceLT, reduceIte, Prod.mk.injEq, eq_self, false_and, and_false, reduceCtorEq, Nat.reduceSub, List.reverse_cons, List.reverse_nil, List.nil_append, List.cons_append, Option.toList_some, Option.toList_none, not_true_eq_false, not_false_eq_true]
    exact at373 1 (Or.inr rfl) (if_neg z).symm
theorem case_mean (hC : KC X mL_law 8 false (some (L, xs)) 601024 7293034) (hCX : KCX X) (hE : KRet X mL_law E) (hL : L ≤ 2048) (hi : i + 4 ≤ L) (hr : kRep 0 D σ) (ht : mTop D σ) (hm : mSt 2 D σ) (hw : kWf0 b0 h0 0 h0 σ) (hG : tG σ ≤ 90) (hb : b0 ≤ 110000) (hcs : cs + 852 ≤ 601024) (hsl : sl + 6520 ≤ 7293034) (next : lNext X b0 i cs sl) : KW X 1403 [some (kR (some (13, 0, 0))), some (kR (some (5, 9, 0))), some (kR (some (7, 4, 0))), some (kR (some (12, 9, 0))), some (kI (nI i)), none, none, none, none] [] (km D G) cs sl := by
  have hs := hw.1
  have hbool := hw.2.2.2.2.2.2
  have hfresh : tC σ < 20 → tZ σ 1 (tC σ) = -1 ∧ tZ σ 4 (tC σ) = 0 := fun h => ⟨(hw.2.2.2.2.2.1.1 _ (Nat.le_refl _) h).1, (hw.2.2.2.2.2.1.1 _ (Nat.le_refl _) h).2.2.2⟩
  obtain ⟨bC, bL, bG, -⟩ := hw.1.1
  have hx5 := kx_live
  have h7 := mLive7
  have hx12 := kx12_live
  have e1 : nI i + 1 = nI (i + 1) := nI_add i 1
  have e2 : nI i + 2 = nI (i + 2) := nI_add i 2
  have e3 : nI i + 3 = nI (i + 3) := nI_add i 3
  have c1 := nI_clamp (show i + 1 < 2 ^ 31 by omega)
  have c2 := nI_clamp (show i + 2 < 2 ^ 31 by omega)
  have c3 := nI_clamp (show i + 3 < 2 ^ 31 by omega)
  have v1 : vp_in (nI (i + 1)) L := vp_in_nI (show i + 1 < L by omega) (by omega)
  have v2 : vp_in (nI (i + 2)) L := vp_in_nI (show i + 2 < L by omega) (by omega)
  have v3 : vp_in (nI (i + 3)) L := vp_in_nI (show i + 3 < L by omega) (by omega)
  refine kwL_law_1403 hC hE ?_
  simp only [kbL_law_1403, mL_law, kblk, kstp, kent, kpad, kget, kst1, kst2, kc2, cond_false, cond_true, kfv, kfit, kOkf, kputv, kputD, kputG, kcpy, kcat, kRR, kNN, true_and, and_true, if_true, if_false, if_pos, Nat.reduceAdd, Nat.reduceEqDiff, Nat.reduceLeDiff, Nat.reduceLT, reduceIte, Prod.mk.injEq, eq_self, false_and, and_false, reduceCtorEq, Nat.reduceSub, List.reverse_cons, List.reverse_nil, List.nil_append, List.cons_append, Option.toList_some, Option.toList_none, not_true_eq_false, not_false_eq_true]
  refine KW_callV hC (by decide +kernel) kl8_154 (by decide) ((s_mean hr hs)) rfl rfl (Nat.le_of_ble_eq_true rfl) rfl hx5 (by simp [kOkL, kOk, hx5, h7, hx12]) (by simp [kOkS, kOk, hx5, h7, hx12]) (Nat.le_of_ble_eq_true rfl) (by omega) (by omega) ?_
  rintro v M' ⟨rfl, rfl⟩
  refine kwL_law_1407 hC hE ?_
  simp only [kbL_law_1407, mL_law, kblk, kstp, kent, kpad, kget, kst1, kst2, kc2, cond_false, cond_true, kfv, kfit, kOkf, kputv, kputD, kputG, kcpy, kcat, kRR, kNN, true_and, and_true, if_true, if_false, if_pos, Nat.reduceAdd, Nat.reduceEqDiff, Nat.reduceLeDiff, Nat.reduceLT, reduceIte, Prod.mk.injEq, eq_self, false_and, and_false, reduceCtorEq, Nat.reduceSub, List.reverse_cons, List.reverse_nil, List.nil_append, List.cons_append, Option.toList_some, Option.toList_none, not_true_eq_false, not_false_eq_true]
  refine KW_callV hC (by decide +kernel) kl8_158 (by decide) ((m7_mean ht hm)) rfl rfl (Nat.le_of_ble_eq_true rfl) rfl h7 (by simp [kOkL, kOk, hx5, h7, hx12]) (by simp [kOkS, kOk, hx5, h7, hx12]) (Nat.le_of_ble_eq_true rfl) (by omega) (by omega) ?_
  rintro v M' ⟨rfl, D2, rfl, hthr, ht2, hm2, ho2⟩
  have hr2 : kRep 0 D2 σ := rep_agree hr (fun j hj => ho2 j (Or.inl (by omega)))
  have fin : ∀ ls', kLE [some (kR (some (13, 0, 0))), some (kR (some (5, 9, 0))), some (kR (some (7, 4, 0))), some (kR (some (12, 9, 0))), some (kI (nI i)), none, none, none, none] ls' → KW X 1441 ls' [] (km D2 G) (cs + 0 + 0) (sl + 0 + 0) := by
    intro ls' hls
    refine KW.le hls ?_
    refine kwL_law_1441 hC hE ?_
    simp only [kbL_law_1441, mL_law, kblk, kstp, kent, kpad, kget, kst1, kst2, kc2, cond_false, cond_true, kfv, kfit, kOkf, kputv, kputD, kputG, kcpy, kcat, kRR, kNN, true_and, and_true, if_true, if_false, if_pos, Nat.reduceAdd, Nat.reduceEqDiff, Nat.reduceLeDiff, Nat.reduceLT, reduceIte, Prod.mk.injEq, eq_self, false_and, and_false, reduceCtorEq, Nat.reduceSub, List.reverse_cons, List.reverse_nil, List.nil_append, List.cons_append, Option.toList_some, Option.toList_none, not_true_eq_false, not_false_eq_true]
    exact KW.widen (by omega) (by omega) (next D2 G σ hr2 ht2 hm2 ⟨⟨h0, hw.mono (by omega)⟩, hG⟩)
  refine kwL_law_1413 hC hE ?_
  simp only [kbL_law_1413, mL_law, kblk, kstp, kent, kpad, kget, kst1, kst2, kc2, cond_false, cond_true, kfv, kfit, kOkf, kputv, kputD, kputG, kcpy, kcat, kRR, kNN, true_and, and_true, if_true, if_false, if_pos, Nat.reduceAdd, Nat.reduceEqDiff, Nat.reduceLeDiff, Nat.reduceLT, reduceIte, Prod.mk.injEq, eq_self, false_and, and_false, reduceCtorEq, Nat.reduceSub, List.reverse_cons, List.reverse_nil, List.nil_append, List.cons_append, Option.toList_some, Option.toList_none, not_true_eq_false, not_false_eq_true]
  refine ⟨fun _ => fin _ (by simp [kLE]), fun z => ?_⟩
  refine kwL_law_1423 hC hE ?_
  simp only [kbL_law_1423, mL_law, kblk, kstp, kent, kpad, kget, kst1, kst2, kc2, cond_false, cond_true, kfv, kfit, kOkf, kputv, kputD, kputG, kcpy, kcat, kRR, kNN, true_and, and_true, if_true, if_false, if_pos, Nat.reduceAdd, Nat.reduceEqDiff, Nat.reduceLeDiff, Nat.reduceLT, reduceIte, Prod.mk.injEq, eq_self, false_and, and_false, reduceCtorEq, Nat.reduceSub, List.reverse_cons, List.reverse_nil, List.nil_append, List.cons_append, Option.toList_some, Option.toList_none, not_true_eq_false, not_false_eq_true]
  refine ⟨fun y => absurd y z, fun _ => ?_⟩
  refine kwL_law_1431 hC hE ?_
  simp only [kbL_law_1431, mL_law, kblk, kstp, kent, kpad, kget, kst1, kst2, kc2, cond_false, cond_true, kfv, kfit, kOkf, kputv, kputD, kputG, kcpy, kcat, kRR, kNN, true_and, and_true, if_true, if_false, if_pos, Nat.reduceAdd, Nat.reduceEqDiff, Nat.reduceLeDiff, Nat.reduceLT, reduceIte, Prod.mk.injEq, eq_self, false_and, and_false, reduceCtorEq, Nat.reduceSub, List.reverse_cons, List.reverse_nil, List.nil_append, List.cons_append, Option.toList_some, Option.toList_none, not_true_eq_false, not_false_eq_true]
  exact ⟨fun _ => fin _ (by simp [kLE]), fun y => absurd y z⟩
theorem case_digest (hC : KC X mL_law 8 false (some (L, xs)) 601024 7293034) (hCX : KCX X) (hE : KRet X mL_law E) (hL : L ≤ 2048) (hi : i + 4 ≤ L) (hr : kRep 0 D σ) (ht : mTop D σ) (hm : mSt 2 D σ) (hw : kWf0 b0 h0 0 h0 σ) (hG : tG σ ≤ 90) (hb : b0 ≤ 110000) (hcs : cs + 852 ≤ 601024) (hsl : sl + 6520 ≤ 7293034) (next : lNext X b0 i cs sl) : KW X 1444 [some (kR (some (13, 0, 0))), some (kR (some (5, 9, 0))), some (kR (some (7, 4, 0))), some (kR (some (12, 9, 0))), some (kI (nI i)), none, none, none, none] [] (km D G) cs sl := by
  have hs := hw.1
  have hbool := hw.2.2.2.2.2.2
  have hfresh : tC σ < 20 → tZ σ 1 (tC σ) = -1 ∧ tZ σ 4 (tC σ) = 0 := fun h => ⟨(hw.2.2.2.2.2.1.1 _ (Nat.le_refl _) h).1, (hw.2.2.2.2.2.1.1 _ (Nat.le_refl _) h).2.2.2⟩
  obtain ⟨bC, bL, bG, -⟩ := hw.1.1
  have hx5 := kx_live
  have h7 := mLive7
  have hx12 := kx12_live
  have e1 : nI i + 1 = nI (i + 1) := nI_add i 1
  have e2 : nI i + 2 = nI (i + 2) := nI_add i 2
  have e3 : nI i + 3 = nI (i + 3) := nI_add i 3
  have c1 := nI_clamp (show i + 1 < 2 ^ 31 by omega)
  have c2 := nI_clamp (show i + 2 < 2 ^ 31 by omega)
  have c3 := nI_clamp (show i + 3 < 2 ^ 31 by omega)
  have v1 : vp_in (nI (i + 1)) L := vp_in_nI (show i + 1 < L by omega) (by omega)
  have v2 : vp_in (nI (i + 2)) L := vp_in_nI (show i + 2 < L by omega) (by omega)
  have v3 : vp_in (nI (i + 3)) L := vp_in_nI (show i + 3 < L by omega) (by omega)
  refine kwL_law_1444 hC hE ?_
  simp only [kbL_law_1444, mL_law, kblk, kstp, kent, kpad, kget, kst1, kst2, kc2, cond_false, cond_true, kfv, kfit, kOkf, kputv, kputD, kputG, kcpy, kcat, kRR, kNN, true_and, and_true, if_true, if_false, if_pos, Nat.reduceAdd, Nat.reduceEqDiff, Nat.reduceLeDiff, Nat.reduceLT, reduceIte, Prod.mk.injEq, eq_self, false_and, and_false, reduceCtorEq, Nat.reduceSub, List.reverse_cons, List.reverse_nil, List.nil_append, List.cons_append, Option.toList_some, Option.toList_none, not_true_eq_false, not_false_eq_true]
  refine KW_callV hC (by decide +kernel) kl8_159 (by decide) ((s_digest hr hs)) rfl rfl (Nat.le_of_ble_eq_true rfl) rfl hx5 (by simp [kOkL, kOk, hx5, h7, hx12]) (by simp [kOkS, kOk, hx5, h7, hx12]) (Nat.le_of_ble_eq_true rfl) (by omega) (by omega) ?_
  rintro v M' ⟨rfl, rfl⟩
  refine kwL_law_1448 hC hE ?_
  simp only [kbL_law_1448, mL_law, kblk, kstp, kent, kpad, kget, kst1, kst2, kc2, cond_false, cond_true, kfv, kfit, kOkf, kputv, kputD, kputG, kcpy, kcat, kRR, kNN, true_and, and_true, if_true, if_false, if_pos, Nat.reduceAdd, Nat.reduceEqDiff, Nat.reduceLeDiff, Nat.reduceLT, reduceIte, Prod.mk.injEq, eq_self, false_and, and_false, reduceCtorEq, Nat.reduceSub, List.reverse_cons, List.reverse_nil, List.nil_append, List.cons_append, Option.toList_some, Option.toList_none, not_true_eq_false, not_false_eq_true]
  refine KW_callV hC (by decide +kernel) kl8_163 (by decide) ((m7_digest ht hm hw hG)) rfl rfl (Nat.le_of_ble_eq_true rfl) rfl h7 (by simp [kOkL, kOk, hx5, h7, hx12]) (by simp [kOkS, kOk, hx5, h7, hx12]) (Nat.le_of_ble_eq_true rfl) (by omega) (by omega) ?_
  rintro v M' ⟨rfl, D2, rfl, hthr, ht2, hm2, ho2⟩
  have hr2 : kRep 0 D2 σ := rep_agree hr (fun j hj => ho2 j (Or.inl (by omega)))
  have e : ∀ y : Int64, lg_cmp y y = 0 := lg_self
  generalize tDigest σ = y
  refine kwL_law_1452 hC hE ?_
  simp only [kbL_law_1452, mL_law, kblk, kstp, kent, kpad, kget, kst1, kst2, kc2, cond_false, cond_true, kfv, kfit, kOkf, kputv, kputD, kputG, kcpy, kcat, kRR, kNN, true_and, and_true, if_true, if_false, if_pos, Nat.reduceAdd, Nat.reduceEqDiff, Nat.reduceLeDiff, Nat.reduceLT, reduceIte, Prod.mk.injEq, eq_self, false_and, and_false, reduceCtorEq, Nat.reduceSub, List.reverse_cons, List.reverse_nil, List.nil_append, List.cons_append, Option.toList_some, Option.toList_none, not_true_eq_false, not_false_eq_true, e]
  exact ⟨fun _ => KW.widen (by omega) (by omega) (next D2 G σ hr2 ht2 hm2 ⟨⟨h0, hw.mono (by omega)⟩, hG⟩), fun z => z.elim⟩
theorem sub4 {L i : Nat} (hL : L ≤ 2048) (hi : i ≤ 4096) : nI L - 4 < nI i ↔ L < i + 4 := by
  have e : (nI L - 4).toInt = (L : Int) - 4 := by
    rw [Int32.toInt_sub, nI_toInt (by omega), show (4 : Int32).toInt = 4 from rfl]
    exact Int.bmod_eq_of_le (by omega) (by omega)
  rw [Int32.lt_iff_toInt_lt, e, nI_toInt (by omega)]
  omega
theorem law_loop (hC : KC X mL_law 8 false (some (L, xs)) 601024 7293034) (hCX : KCX X) (hE : KRet X mL_law E) (hEnd : ∀ M cs sl, cs ≤ 601024 → sl ≤ 7293034 → E (some (kI 1)) M cs sl) (hL : L ≤ 2048) : ∀ (m i : Nat) (D : KI → Nat → Int32) (G : KI → Nat → Int64) (σ : KT), L < i + 4 * m + 4 → i ≤ L + 4 → kRep 0 D σ → mTop D σ → mSt 2 D σ → ((∃ h, kWf0 (50 * i) h 0 h σ) ∧ tG σ ≤ 90) → KW X 23 [some (kR (some (13, 0, 0))), some (kR (some (5, 9, 0))), some (kR (some (7, 4, 0))), some (kR (some (12, 9, 0))), some (kI (nI i)), none, none, none, none] [] (km D G) (294 + 213 * i) (5018 + 1630 * i) := by
  intro m
  induction m with
  | zero =>
    intro i D G σ hm' hi hr ht hm hw
    refine kwL_law_23 hC hE ?_
    simp only [kbL_law_23, mL_law, kblk, kstp, kent, kpad, kget, kst1, kst2, kc2, cond_false, cond_true, kfv, kfit, kOkf, kputv, kputD, kputG, kcpy, kcat, kRR, kNN, true_and, and_true, if_true, if_false, if_pos, Nat.reduceAdd, Nat.reduceEqDiff, Nat.reduceLeDiff, Nat.reduceLT, reduceIte, Prod.mk.injEq, eq_self, false_and, and_false, reduceCtorEq, Nat.reduceSub, List.reverse_cons, List.reverse_nil, List.nil_append, List.cons_append, Option.toList_some, Option.toList_none, not_true_eq_false, not_false_eq_true]
    refine ⟨fun _ => ?_, fun z => absurd ((sub4 hL (by omega)).mpr (by omega)) z⟩
    refine kwL_law_1464 hC hE ?_
    simp only [kbL_law_1464, mL_law, kblk, kstp, kent, kpad, kget, kst1, kst2, kc2, cond_false, cond_true, kfv, kfit, kOkf, kputv, kputD, kputG, kcpy, kcat, kRR, kNN, true_and, and_true, if_true, if_false, if_pos, Nat.reduceAdd, Nat.reduceEqDiff, Nat.reduceLeDiff, Nat.reduceLT, reduceIte, Prod.mk.injEq, eq_self, false_and, and_false, reduceCtorEq, Nat.reduceSub, List.reverse_cons, List.reverse_nil, List.nil_append, List.cons_append, Option.toList_some, Option.toList_none, not_true_eq_false, not_false_eq_true]
    exact hEnd _ _ _ (by omega) (by omega)
  | succ m ih =>
    intro i D G σ hm' hi hr ht hm hw
    obtain ⟨⟨h0, hw⟩, hG⟩ := hw
    refine kwL_law_23 hC hE ?_
    simp only [kbL_law_23, mL_law, kblk, kstp, kent, kpad, kget, kst1, kst2, kc2, cond_false, cond_true, kfv, kfit, kOkf, kputv, kputD, kputG, kcpy, kcat, kRR, kNN, true_and, and_true, if_true, if_false, if_pos, Nat.reduceAdd, Nat.reduceEqDiff, Nat.reduceLeDiff, Nat.reduceLT, reduceIte, Prod.mk.injEq, eq_self, false_and, and_false, reduceCtorEq, Nat.reduceSub, List.reverse_cons, List.reverse_nil, List.nil_append, List.cons_append, Option.toList_some, Option.toList_none, not_true_eq_false, not_false_eq_true]
    refine ⟨fun _ => ?_, fun z => ?_⟩
    · refine kwL_law_1464 hC hE ?_
      simp only [kbL_law_1464, mL_law, kblk, kstp, kent, kpad, kget, kst1, kst2, kc2, cond_false, cond_true, kfv, kfit, kOkf, kputv, kputD, kputG, kcpy, kcat, kRR, kNN, true_and, and_true, if_true, if_false, if_pos, Nat.reduceAdd, Nat.reduceEqDiff, Nat.reduceLeDiff, Nat.reduceLT, reduceIte, Prod.mk.injEq, eq_self, false_and, and_false, reduceCtorEq, Nat.reduceSub, List.reverse_cons, List.reverse_nil, List.nil_append, List.cons_append, Option.toList_some, Option.toList_none, not_true_eq_false, not_false_eq_true]
      exact hEnd _ _ _ (by omega) (by omega)
    · have hi4 : i + 4 ≤ L := by
        have : ¬ L < i + 4 := fun w => z ((sub4 (i := i) hL (by omega)).mpr w)
        omega
      have next : lNext X (50 * i) i (294 + 213 * i) (5018 + 1630 * i) := by
        intro D' G' σ' q1 q2 q3 q4
        have e4 : nI i + 4 = nI (i + 4) := nI_add i 4
        refine kwL_law_1458 hC hE ?_
        simp only [kbL_law_1458, mL_law, kblk, kstp, kent, kpad, kget, kst1, kst2, kc2, cond_false, cond_true, kfv, kfit, kOkf, kputv, kputD, kputG, kcpy, kcat, kRR, kNN, true_and, and_true, if_true, if_false, if_pos, Nat.reduceAdd, Nat.reduceEqDiff, Nat.reduceLeDiff, Nat.reduceLT, reduceIte, Prod.mk.injEq, eq_self, false_and, and_false, reduceCtorEq, Nat.reduceSub, List.reverse_cons, List.reverse_nil, List.nil_append, List.cons_append, Option.toList_some, Option.toList_none, not_true_eq_false, not_false_eq_true, e4]
        exact KW.widen (by omega) (by omega) (ih (i + 4) D' G' σ' (by omega) (by omega) q1 q2 q3 q4)
      have hb : 50 * i ≤ 110000 := by omega
      have k1 : 294 + 213 * i + 852 ≤ 601024 := by omega
      have k2 : 5018 + 1630 * i + 6520 ≤ 7293034 := by omega
      have ci := nI_clamp (show i < 2 ^ 31 by omega)
      refine kwL_law_32 hC hE ?_
      simp only [kbL_law_32, mL_law, kblk, kstp, kent, kpad, kget, kst1, kst2, kc2, cond_false, cond_true, kfv, kfit, kOkf, kputv, kputD, kputG, kcpy, kcat, kRR, kNN, true_and, and_true, if_true, if_false, if_pos, Nat.reduceAdd, Nat.reduceEqDiff, Nat.reduceLeDiff, Nat.reduceLT, reduceIte, Prod.mk.injEq, eq_self, false_and, and_false, reduceCtorEq, Nat.reduceSub, List.reverse_cons, List.reverse_nil, List.nil_append, List.cons_append, Option.toList_some, Option.toList_none, not_true_eq_false, not_false_eq_true, ci]
      refine ⟨vp_in_nI (show i < L by omega) (by omega), ?_⟩
      have dflt : KW X 1458 [some (kR (some (13, 0, 0))), some (kR (some (5, 9, 0))), some (kR (some (7, 4, 0))), some (kR (some (12, 9, 0))), some (kI (nI i)), none, none, none, none] [] (km D G) (294 + 213 * i) (5018 + 1630 * i) := KW.widen (by omega) (by omega) (next D G σ hr ht hm ⟨⟨h0, hw.mono (by omega)⟩, hG⟩)
      refine ⟨fun _ => dflt, fun _ => case_stretch hC hCX hE hL hi4 hr ht hm hw hG hb k1 k2 next, fun _ => case_addChair hC hCX hE hL hi4 hr ht hm hw hG hb k1 k2 next, fun _ => case_want hC hCX hE hL hi4 hr ht hm hw hG hb k1 k2 next, fun _ => case_addLane hC hCX hE hL hi4 hr ht hm hw hG hb k1 k2 next, fun _ => case_shut hC hCX hE hL hi4 hr ht hm hw hG hb k1 k2 next, fun _ => case_setWind hC hCX hE hL hi4 hr ht hm hw hG hb k1 k2 next, fun _ => case_join hC hCX hE hL hi4 hr ht hm hw hG hb k1 k2 next, fun _ => case_change hC hCX hE hL hi4 hr ht hm hw hG hb k1 k2 next, fun _ => case_leave hC hCX hE hL hi4 hr ht hm hw hG hb k1 k2 next, fun _ => case_group hC hCX hE hL hi4 hr ht hm hw hG hb k1 k2 next, fun _ => case_chair hC hCX hE hL hi4 hr ht hm hw hG hb k1 k2 next, fun _ => case_lane hC hCX hE hL hi4 hr ht hm hw hG hb k1 k2 next, fun _ => case_queue hC hCX hE hL hi4 hr ht hm hw hG hb k1 k2 next, fun _ => case_shed hC hCX hE hL hi4 hr ht hm hw hG hb k1 k2 next, fun _ => case_pass hC hCX hE hL hi4 hr ht hm hw hG hb k1 k2 next, fun _ => case_count hC hCX hE hL hi4 hr ht hm hw hG hb k1 k2 next, fun _ => case_foresee hC hCX hE hL hi4 hr ht hm hw hG hb k1 k2 next, fun _ => case_when hC hCX hE hL hi4 hr ht hm hw hG hb k1 k2 next, fun _ => case_advise hC hCX hE hL hi4 hr ht hm hw hG hb k1 k2 next, fun _ => case_needs hC hCX hE hL hi4 hr ht hm hw hG hb k1 k2 next, fun _ => case_mean hC hCX hE hL hi4 hr ht hm hw hG hb k1 k2 next, fun _ => case_digest hC hCX hE hL hi4 hr ht hm hw hG hb k1 k2 next, trivial⟩
end CASES2

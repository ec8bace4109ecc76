/-! The reference: advice. -/
theorem until_cut {g : Nat} : ∀ (m n i : Nat) (σ : KT), m ≤ n → (tUntil g m i σ = -1 ∧ (tUntil g n i σ = -1 ∨ ∃ t, i + m ≤ t ∧ t < i + n ∧ tUntil g n i σ = nI t)) ∨ ∃ t, i ≤ t ∧ t < i + m ∧ tUntil g m i σ = nI t ∧ tUntil g n i σ = nI t
  | 0, n, i, σ, _ => Or.inl ⟨rfl, by
      rcases until_spec n i σ (g := g) with h | ⟨k, h1, h2, h3⟩
      · exact Or.inl h
      · exact Or.inr ⟨k, by omega, h2, h3⟩⟩
  | m + 1, 0, _, _, h => absurd h (by omega)
  | m + 1, n + 1, i, σ, h => by
    simp only [tUntil]
    by_cases h3 : tZ σ 12 g = 3
    · rw [if_pos h3, if_pos h3]
      exact Or.inl ⟨rfl, Or.inl rfl⟩
    · rw [if_neg h3, if_neg h3]
      by_cases h2 : tZ (tStep σ) 12 g = 2
      · rw [if_pos h2, if_pos h2]
        exact Or.inr ⟨i, Nat.le_refl _, by omega, rfl, rfl⟩
      · rw [if_neg h2, if_neg h2]
        rcases until_cut m n (i + 1) (tStep σ) (by omega) with ⟨a, b | ⟨t, t1, t2, t3⟩⟩ | ⟨t, t1, t2, t3, t4⟩
        · exact Or.inl ⟨a, Or.inl b⟩
        · exact Or.inl ⟨a, Or.inr ⟨t, by omega, by omega, t3⟩⟩
        · exact Or.inr ⟨t, by omega, by omega, t3, t4⟩
section M7E
variable {D : KI → Nat → Int32} {G : KI → Nat → Int64} {P : Nat} {σ : KT}
theorem m7_advise (ht : mTop D σ) (hm : mSt 2 D σ) {b hf : Nat} (hw : kWf0 b hf 0 hf σ) (hG : tG σ ≤ 90) (hb : b + 250 < 2 ^ 30) (z : Int32) : SpQ mX7_advise 0 0 [kR (some (7, 4, 0)), kI z] (km D G) (fun v M' => ((1 ≤ z ∧ z ≤ 6) ∧ v = some (kI (tAdv σ z (tL σ) 0 (-1) 200)) ∧ mPub D G σ 0 M') ∨ (¬ (1 ≤ z ∧ z ≤ 6) ∧ v = some (kI 0) ∧ mPub D G σ 1 M')) := by
  refine SpQ_of (own := 7) (ini := false) (by decide +kernel) rfl (by decide) (Nat.le_of_ble_eq_true rfl) ?_
  intro X hC hE hL0
  have h7 := mLive7
  have hx := mLive (P := 2) (Or.inl rfl)
  have ht0 := mTop_thr ht 0
  have hm0 := mSt_7 (Or.inl rfl) hm 0 0
  have hx3 := mLive (P := 3) (Or.inr rfl)
  obtain ⟨bC, hL, -, bS, bQ⟩ := hw.1.1
  have l41 := mLive4 (k := 1) (by decide)
  have n41 : kN8 4 1 = 4 := rfl
  refine kwX7_advise_0 hC hE ?_
  simp only [kbX7_advise_0, mX7_advise, kblk, kstp, kent, kpad, kget, kst1, kst2, kc2, cond_false, cond_true, kfv, kfit, kOkf, kputv, kputD, kputG, kcpy, kcat, kRR, kNN, true_and, and_true, if_true, if_false, if_pos, Nat.reduceAdd, Nat.reduceEqDiff, Nat.reduceLeDiff, Nat.reduceLT, reduceIte, Prod.mk.injEq, eq_self, false_and, and_false, reduceCtorEq, Nat.reduceSub, List.reverse_cons, List.reverse_nil, List.nil_append, List.cons_append, Option.toList_some, Option.toList_none, not_true_eq_false, not_false_eq_true, h7]
  refine KW_callS hC (by decide +kernel) kl7_41 (by decide) ((m7_isIn (km (kput D (7, 4, 0) 0 0) G) z 1 6)) rfl rfl (by simp [kOkL, kOk, h7]) (by simp [kOkS]) (Nat.le_of_ble_eq_true rfl) (Nat.le_of_ble_eq_true rfl) (Nat.le_of_ble_eq_true rfl) ?_
  rintro v M' ⟨rfl, rfl⟩
  refine kwX7_advise_12 hC hE ?_
  simp only [kbX7_advise_12, mX7_advise, kblk, kstp, kent, kpad, kget, kst1, kst2, kc2, cond_false, cond_true, kfv, kfit, kOkf, kputv, kputD, kputG, kcpy, kcat, kRR, kNN, true_and, and_true, if_true, if_false, if_pos, Nat.reduceAdd, Nat.reduceEqDiff, Nat.reduceLeDiff, Nat.reduceLT, reduceIte, Prod.mk.injEq, eq_self, false_and, and_false, reduceCtorEq, Nat.reduceSub, List.reverse_cons, List.reverse_nil, List.nil_append, List.cons_append, Option.toList_some, Option.toList_none, not_true_eq_false, not_false_eq_true]
  refine ⟨fun h => ?_, fun h => ?_⟩
  · have hz : 1 ≤ z ∧ z ≤ 6 := Classical.byContradiction fun y => h (if_neg y)
    obtain ⟨y, y1, y6, rfl⟩ := in_range1 (n := 6) (by decide) hz
    have c6 : ∀ D', kOff 3 D' (kput D (7, 4, 0) 0 0) → D' (7, 4, 0) 3 = nI (tL σ) := fun D' ho => by
      rw [ho _ (by decide)]; exact ht0.1.2.2
    have loop : ∀ (m i : Nat) (best : Int32) (lm : Nat) (D' : KI → Nat → Int32), i + m = tL σ → lm ≤ 200 → kOff 3 D' (kput D (7, 4, 0) 0 0) → tAdv σ (nI y) m i best lm = tAdv σ (nI y) (tL σ) 0 (-1) 200 → KW X 30 [some (kR (some (7, 4, 0))), some (kI (nI y)), some (kI best), some (kI (nI (lm + 1))), some (kI (nI i)), none] [] (km D' G) 0 0 := by
      intro m
      induction m with
      | zero =>
        intro i best lm D' him hlm ho he
        have hi : i = tL σ := by omega
        subst hi
        refine kwX7_advise_30 hC hE ?_
        simp only [kbX7_advise_30, mX7_advise, kblk, kstp, kent, kpad, kget, kst1, kst2, kc2, cond_false, cond_true, kfv, kfit, kOkf, kputv, kputD, kputG, kcpy, kcat, kRR, kNN, true_and, and_true, if_true, if_false, if_pos, Nat.reduceAdd, Nat.reduceEqDiff, Nat.reduceLeDiff, Nat.reduceLT, reduceIte, Prod.mk.injEq, eq_self, false_and, and_false, reduceCtorEq, Nat.reduceSub, List.reverse_cons, List.reverse_nil, List.nil_append, List.cons_append, Option.toList_some, Option.toList_none, not_true_eq_false, not_false_eq_true, h7, c6 D' ho]
        refine ⟨fun _ => ?_, fun w => absurd (nI_le (Nat.le_refl _) (by omega)) w⟩
        refine kwX7_advise_113 hC hE ?_
        simp only [kbX7_advise_113, mX7_advise, kblk, kstp, kent, kpad, kget, kst1, kst2, kc2, cond_false, cond_true, kfv, kfit, kOkf, kputv, kputD, kputG, kcpy, kcat, kRR, kNN, true_and, and_true, if_true, if_false, if_pos, Nat.reduceAdd, Nat.reduceEqDiff, Nat.reduceLeDiff, Nat.reduceLT, reduceIte, Prod.mk.injEq, eq_self, false_and, and_false, reduceCtorEq, Nat.reduceSub, List.reverse_cons, List.reverse_nil, List.nil_append, List.cons_append, Option.toList_some, Option.toList_none, not_true_eq_false, not_false_eq_true]
        exact ⟨Or.inl ⟨hz, by rw [← he]; rfl, mPub_3 ht hm ho⟩, trivial, Nat.le_refl _, Nat.le_refl _⟩
      | succ m ih =>
        intro i best lm D' him hlm ho he
        have hi : i < tL σ := by omega
        have hcl := nI_clamp (show i < 2 ^ 31 by omega)
        have hmD : mSt 2 D' σ := mSt_off hm0 (ho _ (by decide)) (fun k => ho _ (by simp))
        have q21 : D' (8, 4, 1) i = tZ σ 21 i := by
          rw [ho _ (by decide)]; exact ht0.2.2.1 i (by omega)
        replace he : (if tZ σ 21 i = 0 then (if tUntil (tG σ) lm 1 (mkGroup σ i (nI y) 200) = -1 then tAdv σ (nI y) m (i + 1) best lm else tAdv σ (nI y) m (i + 1) (nI i) ((tUntil (tG σ) lm 1 (mkGroup σ i (nI y) 200)).toNatClampNeg - 1)) else tAdv σ (nI y) m (i + 1) best lm) = tAdv σ (nI y) (tL σ) 0 (-1) 200 := he
        have next : ∀ (best2 : Int32) (lm2 : Nat) (D2 : KI → Nat → Int32), lm2 ≤ 200 → kOff 3 D2 (kput D (7, 4, 0) 0 0) → tAdv σ (nI y) m (i + 1) best2 lm2 = tAdv σ (nI y) (tL σ) 0 (-1) 200 → KW X 107 [some (kR (some (7, 4, 0))), some (kI (nI y)), some (kI best2), some (kI (nI (lm2 + 1))), some (kI (nI i)), none] [] (km D2 G) 0 0 := by
          intro best2 lm2 D2 h1 h2 h3
          refine kwX7_advise_107 hC hE ?_
          simp only [kbX7_advise_107, mX7_advise, kblk, kstp, kent, kpad, kget, kst1, kst2, kc2, cond_false, cond_true, kfv, kfit, kOkf, kputv, kputD, kputG, kcpy, kcat, kRR, kNN, true_and, and_true, if_true, if_false, if_pos, Nat.reduceAdd, Nat.reduceEqDiff, Nat.reduceLeDiff, Nat.reduceLT, reduceIte, Prod.mk.injEq, eq_self, false_and, and_false, reduceCtorEq, Nat.reduceSub, List.reverse_cons, List.reverse_nil, List.nil_append, List.cons_append, Option.toList_some, Option.toList_none, not_true_eq_false, not_false_eq_true, nI_1]
          exact ih (i + 1) best2 lm2 D2 (by omega) h1 h2 h3
        refine kwX7_advise_30 hC hE ?_
        simp only [kbX7_advise_30, mX7_advise, kblk, kstp, kent, kpad, kget, kst1, kst2, kc2, cond_false, cond_true, kfv, kfit, kOkf, kputv, kputD, kputG, kcpy, kcat, kRR, kNN, true_and, and_true, if_true, if_false, if_pos, Nat.reduceAdd, Nat.reduceEqDiff, Nat.reduceLeDiff, Nat.reduceLT, reduceIte, Prod.mk.injEq, eq_self, false_and, and_false, reduceCtorEq, Nat.reduceSub, List.reverse_cons, List.reverse_nil, List.nil_append, List.cons_append, Option.toList_some, Option.toList_none, not_true_eq_false, not_false_eq_true, h7, c6 D' ho]
        refine ⟨fun w => absurd w (nI_ge hi (by omega)), fun _ => ?_⟩
        refine kwX7_advise_39 hC hE ?_
        simp only [kbX7_advise_39, mX7_advise, kblk, kstp, kent, kpad, kget, kst1, kst2, kc2, cond_false, cond_true, kfv, kfit, kOkf, kputv, kputD, kputG, kcpy, kcat, kRR, kNN, true_and, and_true, if_true, if_false, if_pos, Nat.reduceAdd, Nat.reduceEqDiff, Nat.reduceLeDiff, Nat.reduceLT, reduceIte, Prod.mk.injEq, eq_self, false_and, and_false, reduceCtorEq, Nat.reduceSub, List.reverse_cons, List.reverse_nil, List.nil_append, List.cons_append, Option.toList_some, Option.toList_none, not_true_eq_false, not_false_eq_true, h7, l41, n41, hcl, q21]
        refine ⟨vp_in_nI (show i < 4 by omega) (by omega), fun w => ?_, fun w => ?_⟩
        · have h0 : tZ σ 21 i = 0 := (hw.2.2.2.2.2.2 i hi).resolve_right w
          rw [if_pos h0] at he
          refine kwX7_advise_53 hC hE ?_
          simp only [kbX7_advise_53, mX7_advise, kblk, kstp, kent, kpad, kget, kst1, kst2, kc2, cond_false, cond_true, kfv, kfit, kOkf, kputv, kputD, kputG, kcpy, kcat, kRR, kNN, true_and, and_true, if_true, if_false, if_pos, Nat.reduceAdd, Nat.reduceEqDiff, Nat.reduceLeDiff, Nat.reduceLT, reduceIte, Prod.mk.injEq, eq_self, false_and, and_false, reduceCtorEq, Nat.reduceSub, List.reverse_cons, List.reverse_nil, List.nil_append, List.cons_append, Option.toList_some, Option.toList_none, not_true_eq_false, not_false_eq_true, h7]
          refine KW_callV hC (by decide +kernel) kl7_152 (by decide) ((m_become hmD hw.1 hw.qOK)) rfl rfl (Nat.le_of_ble_eq_true rfl) rfl hx3 (by simp [kOkL, kOk, h7, hx, hx3]) (by simp [kOkS, kOk, h7]) (Nat.le_of_ble_eq_true rfl) (Nat.le_of_ble_eq_true rfl) (Nat.le_of_ble_eq_true rfl) ?_
          rintro v M' ⟨rfl, D1, rfl, hm1, ho1⟩
          refine kwX7_advise_64 hC hE ?_
          simp only [kbX7_advise_64, mX7_advise, kblk, kstp, kent, kpad, kget, kst1, kst2, kc2, cond_false, cond_true, kfv, kfit, kOkf, kputv, kputD, kputG, kcpy, kcat, kRR, kNN, true_and, and_true, if_true, if_false, if_pos, Nat.reduceAdd, Nat.reduceEqDiff, Nat.reduceLeDiff, Nat.reduceLT, reduceIte, Prod.mk.injEq, eq_self, false_and, and_false, reduceCtorEq, Nat.reduceSub, List.reverse_cons, List.reverse_nil, List.nil_append, List.cons_append, Option.toList_some, Option.toList_none, not_true_eq_false, not_false_eq_true, h7]
          refine KW_callV hC (by decide +kernel) kl7_75 (by decide) ((m_join (Or.inr rfl) hm1 hw.1 hw.qOK (show tG σ < 91 by omega) hi (nI y) 200)) rfl rfl (Nat.le_of_ble_eq_true rfl) rfl hx3 (by simp [kOkL, kOk, h7, hx, hx3]) (by simp [kOkS, kOk, h7]) (Nat.le_of_ble_eq_true rfl) (Nat.le_of_ble_eq_true rfl) (Nat.le_of_ble_eq_true rfl) ?_
          rintro v M' ⟨rfl, D2, rfl, hm2, ho2⟩
          have hoo := ho2.trans (ho1.trans ho)
          have hw2 := hw.newGroup (show tG σ < 91 by omega) hi y1 y6 200
          have ht2 : mTop D2 (mkGroup σ i (nI y) 200) := (ht0.same (P := 3) (Or.inr rfl) hoo).congr rfl rfl (fun c => mkGroup_f (by decide)) (fun c => mkGroup_f (by decide)) (fun c => mkGroup_f (by decide)) (mkGroup_f (by decide))
          refine kwX7_advise_78 hC hE ?_
          simp only [kbX7_advise_78, mX7_advise, kblk, kstp, kent, kpad, kget, kst1, kst2, kc2, cond_false, cond_true, kfv, kfit, kOkf, kputv, kputD, kputG, kcpy, kcat, kRR, kNN, true_and, and_true, if_true, if_false, if_pos, Nat.reduceAdd, Nat.reduceEqDiff, Nat.reduceLeDiff, Nat.reduceLT, reduceIte, Prod.mk.injEq, eq_self, false_and, and_false, reduceCtorEq, Nat.reduceSub, List.reverse_cons, List.reverse_nil, List.nil_append, List.cons_append, Option.toList_some, Option.toList_none, not_true_eq_false, not_false_eq_true]
          refine KW_callV hC (by decide +kernel) kl7_156 (by decide) ((m7_rises (n := 200) ht2 hm2 hw2 (by decide) (by omega) (g := tG σ) (show tG σ < tG σ + 1 by omega))) rfl rfl (Nat.le_of_ble_eq_true rfl) rfl h7 (by simp [kOkL, kOk, h7]) (by simp [kOkS]) (Nat.le_of_ble_eq_true rfl) (Nat.le_of_ble_eq_true rfl) (Nat.le_of_ble_eq_true rfl) ?_
          rintro v M' ⟨rfl, D3, rfl, ho3⟩
          have hooo := ho3.trans hoo
          have h12 : ¬ tZ (mkGroup σ i (nI y) 200) 12 (tG σ) = 2 := by
            rw [(mkGroup_new (σ := σ) (l := i) (a := nI y) (b := 200)).2.1]; decide
          rw [if_neg h12]
          refine kwX7_advise_84 hC hE ?_
          simp only [kbX7_advise_84, mX7_advise, kblk, kstp, kent, kpad, kget, kst1, kst2, kc2, cond_false, cond_true, kfv, kfit, kOkf, kputv, kputD, kputG, kcpy, kcat, kRR, kNN, true_and, and_true, if_true, if_false, if_pos, Nat.reduceAdd, Nat.reduceEqDiff, Nat.reduceLeDiff, Nat.reduceLT, reduceIte, Prod.mk.injEq, eq_self, false_and, and_false, reduceCtorEq, Nat.reduceSub, List.reverse_cons, List.reverse_nil, List.nil_append, List.cons_append, Option.toList_some, Option.toList_none, not_true_eq_false, not_false_eq_true]
          rcases until_cut (g := tG σ) lm 200 1 (mkGroup σ i (nI y) 200) hlm with ⟨a, u | ⟨t, t1, t2, u⟩⟩ | ⟨t, t1, t2, a, u⟩
          · rw [a, if_pos rfl] at he
            rw [u]
            exact ⟨fun _ => KW.le (by simp [kLE]) (next best lm D3 hlm hooo he), fun w => absurd rfl w⟩
          · rw [a, if_pos rfl] at he
            rw [u]
            refine ⟨fun w => absurd w (nI_m1 (by omega)), fun _ => ?_⟩
            refine kwX7_advise_92 hC hE ?_
            simp only [kbX7_advise_92, mX7_advise, kblk, kstp, kent, kpad, kget, kst1, kst2, kc2, cond_false, cond_true, kfv, kfit, kOkf, kputv, kputD, kputG, kcpy, kcat, kRR, kNN, true_and, and_true, if_true, if_false, if_pos, Nat.reduceAdd, Nat.reduceEqDiff, Nat.reduceLeDiff, Nat.reduceLT, reduceIte, Prod.mk.injEq, eq_self, false_and, and_false, reduceCtorEq, Nat.reduceSub, List.reverse_cons, List.reverse_nil, List.nil_append, List.cons_append, Option.toList_some, Option.toList_none, not_true_eq_false, not_false_eq_true]
            refine ⟨fun w => absurd (nI_ltr (by omega) (by omega) w) (by omega), fun _ => ?_⟩
            refine kwX7_advise_98 hC hE ?_
            simp only [kbX7_advise_98, mX7_advise, kblk, kstp, kent, kpad, kget, kst1, kst2, kc2, cond_false, cond_true, kfv, kfit, kOkf, kputv, kputD, kputG, kcpy, kcat, kRR, kNN, true_and, and_true, if_true, if_false, if_pos, Nat.reduceAdd, Nat.reduceEqDiff, Nat.reduceLeDiff, Nat.reduceLT, reduceIte, Prod.mk.injEq, eq_self, false_and, and_false, reduceCtorEq, Nat.reduceSub, List.reverse_cons, List.reverse_nil, List.nil_append, List.cons_append, Option.toList_some, Option.toList_none, not_true_eq_false, not_false_eq_true]
            exact KW.le (by simp [kLE]) (next best lm D3 hlm hooo he)
          · have hne : ¬ nI t = -1 := nI_m1 (by omega)
            rw [a, if_neg hne, nI_clamp (by omega)] at he
            rw [u]
            refine ⟨fun w => absurd w hne, fun _ => ?_⟩
            refine kwX7_advise_92 hC hE ?_
            simp only [kbX7_advise_92, mX7_advise, kblk, kstp, kent, kpad, kget, kst1, kst2, kc2, cond_false, cond_true, kfv, kfit, kOkf, kputv, kputD, kputG, kcpy, kcat, kRR, kNN, true_and, and_true, if_true, if_false, if_pos, Nat.reduceAdd, Nat.reduceEqDiff, Nat.reduceLeDiff, Nat.reduceLT, reduceIte, Prod.mk.injEq, eq_self, false_and, and_false, reduceCtorEq, Nat.reduceSub, List.reverse_cons, List.reverse_nil, List.nil_append, List.cons_append, Option.toList_some, Option.toList_none, not_true_eq_false, not_false_eq_true]
            refine ⟨fun _ => ?_, fun w => absurd (nI_lt (show t < lm + 1 by omega) (by omega)) w⟩
            refine kwX7_advise_101 hC hE ?_
            simp only [kbX7_advise_101, mX7_advise, kblk, kstp, kent, kpad, kget, kst1, kst2, kc2, cond_false, cond_true, kfv, kfit, kOkf, kputv, kputD, kputG, kcpy, kcat, kRR, kNN, true_and, and_true, if_true, if_false, if_pos, Nat.reduceAdd, Nat.reduceEqDiff, Nat.reduceLeDiff, Nat.reduceLT, reduceIte, Prod.mk.injEq, eq_self, false_and, and_false, reduceCtorEq, Nat.reduceSub, List.reverse_cons, List.reverse_nil, List.nil_append, List.cons_append, Option.toList_some, Option.toList_none, not_true_eq_false, not_false_eq_true]
            have ht1 : t = (t - 1) + 1 := by omega
            have nx := next (nI i) (t - 1) D3 (by omega) hooo he
            rw [← ht1] at nx
            exact KW.le (by simp [kLE]) nx
        · have h0 : ¬ tZ σ 21 i = 0 := by rw [w]; decide
          rw [if_neg h0] at he
          refine kwX7_advise_50 hC hE ?_
          simp only [kbX7_advise_50, mX7_advise, kblk, kstp, kent, kpad, kget, kst1, kst2, kc2, cond_false, cond_true, kfv, kfit, kOkf, kputv, kputD, kputG, kcpy, kcat, kRR, kNN, true_and, and_true, if_true, if_false, if_pos, Nat.reduceAdd, Nat.reduceEqDiff, Nat.reduceLeDiff, Nat.reduceLT, reduceIte, Prod.mk.injEq, eq_self, false_and, and_false, reduceCtorEq, Nat.reduceSub, List.reverse_cons, List.reverse_nil, List.nil_append, List.cons_append, Option.toList_some, Option.toList_none, not_true_eq_false, not_false_eq_true]
          exact next best lm D' hlm ho he
    refine kwX7_advise_21 hC hE ?_
    simp only [kbX7_advise_21, mX7_advise, kblk, kstp, kent, kpad, kget, kst1, kst2, kc2, cond_false, cond_true, kfv, kfit, kOkf, kputv, kputD, kputG, kcpy, kcat, kRR, kNN, true_and, and_true, if_true, if_false, if_pos, Nat.reduceAdd, Nat.reduceEqDiff, Nat.reduceLeDiff, Nat.reduceLT, reduceIte, Prod.mk.injEq, eq_self, false_and, and_false, reduceCtorEq, Nat.reduceSub, List.reverse_cons, List.reverse_nil, List.nil_append, List.cons_append, Option.toList_some, Option.toList_none, not_true_eq_false, not_false_eq_true]
    exact loop (tL σ) 0 (-1) 200 _ (by omega) (by decide) kOff.refl rfl
  · have hz : ¬ (1 ≤ z ∧ z ≤ 6) := fun y => by rw [if_pos y] at h; exact absurd h (by decide)
    refine kwX7_advise_15 hC hE ?_
    simp only [kbX7_advise_15, mX7_advise, kblk, kstp, kent, kpad, kget, kst1, kst2, kc2, cond_false, cond_true, kfv, kfit, kOkf, kputv, kputD, kputG, kcpy, kcat, kRR, kNN, true_and, and_true, if_true, if_false, if_pos, Nat.reduceAdd, Nat.reduceEqDiff, Nat.reduceLeDiff, Nat.reduceLT, reduceIte, Prod.mk.injEq, eq_self, false_and, and_false, reduceCtorEq, Nat.reduceSub, List.reverse_cons, List.reverse_nil, List.nil_append, List.cons_append, Option.toList_some, Option.toList_none, not_true_eq_false, not_false_eq_true]
    refine KW_callV hC (by decide +kernel) kl7_48 (by decide) ((m7_no 1)) rfl rfl (Nat.le_of_ble_eq_true rfl) rfl h7 (by simp [kOkL, kOk, h7]) (by simp [kOkS]) (Nat.le_of_ble_eq_true rfl) (Nat.le_of_ble_eq_true rfl) (Nat.le_of_ble_eq_true rfl) ?_
    rintro v M' ⟨rfl, rfl⟩
    refine kwX7_advise_20 hC hE ?_
    simp only [kbX7_advise_20, mX7_advise, kblk, kstp, kent, kpad, kget, kst1, kst2, kc2, cond_false, cond_true, kfv, kfit, kOkf, kputv, kputD, kputG, kcpy, kcat, kRR, kNN, true_and, and_true, if_true, if_false, if_pos, Nat.reduceAdd, Nat.reduceEqDiff, Nat.reduceLeDiff, Nat.reduceLT, reduceIte, Prod.mk.injEq, eq_self, false_and, and_false, reduceCtorEq, Nat.reduceSub, List.reverse_cons, List.reverse_nil, List.nil_append, List.cons_append, Option.toList_some, Option.toList_none, not_true_eq_false, not_false_eq_true]
    exact ⟨Or.inr ⟨hz, rfl, mPub_no ht hm 1⟩, trivial, Nat.le_refl _, Nat.le_refl _⟩
end M7E

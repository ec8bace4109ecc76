/-! The reference's public methods: steps. -/
theorem in_range1 {x : Int32} {n : Nat} (hn : n < 2 ^ 30) (h : 1 ≤ x ∧ x ≤ nI n) : ∃ i, 1 ≤ i ∧ i ≤ n ∧ x = nI i := by
  obtain ⟨h1, h2⟩ := h
  rw [Int32.le_iff_toInt_le] at h1
  rw [Int32.le_iff_toInt_le, nI_toInt (by omega)] at h2
  have h0 : (1 : Int32).toInt = 1 := rfl
  rw [h0] at h1
  refine ⟨x.toInt.toNat, by omega, by omega, ?_⟩
  rw [← Int32.toInt_inj, nI_toInt (by omega)]
  omega
theorem same_step {σ : KT} {f j : Nat} (hf : f = 0 ∨ f = 10 ∨ f = 11 ∨ f = 15 ∨ f = 21 ∨ f = 38 ∨ f = 39 ∨ f = 50) : tZ (tStep σ) f j = tZ σ f j := by
  unfold tStep
  rw [tZ_ne (by omega), (same_imp _).2.2.2 f j (by omega), same_half.2.2.2 f j (by omega)]
theorem tC_tStep {σ : KT} : tC (tStep σ) = tC σ := (same_imp (σ := tHalfStep σ) _).1.trans same_half.1
theorem tL_tStep {σ : KT} : tL (tStep σ) = tL σ := (same_imp (σ := tHalfStep σ) _).2.1.trans same_half.2.1
theorem mTop.step {D : KI → Nat → Int32} {σ : KT} (h : mTop D σ) : mTop D (tStep σ) := h.congr tC_tStep tL_tStep (fun c => same_step (by decide)) (fun c => same_step (by decide)) (fun c => same_step (by decide)) (same_step (by decide))
theorem mTop.same {P : Nat} {D D' : KI → Nat → Int32} {σ : KT} (h : mTop D σ) (hP : P = 2 ∨ P = 3) (ho : kOff P D' D) : mTop D' σ := h.off hP ho kSame.refl
section M7D
variable {D : KI → Nat → Int32} {G : KI → Nat → Int64} {P : Nat} {σ : KT}
theorem m7_pass (ht : mTop D σ) (hm : mSt 2 D σ) {b hf : Nat} (hw : kWf0 b hf 0 hf σ) (hb : b + 200 < 2 ^ 30) (n : Int32) : SpQ mX7_pass 0 0 [kR (some (7, 4, 0)), kI n] (km D G) (fun v M' => (∃ k, 1 ≤ k ∧ k ≤ 200 ∧ n = nI k ∧ v = some (kI (tStepsUp k σ)) ∧ mPub D G (tSteps k σ) 0 M') ∨ (¬ (1 ≤ n ∧ n ≤ 200) ∧ v = some (kI 0) ∧ mPub D G σ 1 M')) := by
  refine SpQ_of (own := 7) (ini := false) (by decide +kernel) rfl (by decide) (Nat.le_of_ble_eq_true rfl) ?_
  intro X hC hE hL0
  have h7 := mLive7
  have hx := mLive (P := 2) (Or.inl rfl)
  have ht0 := mTop_thr ht 0
  have hm0 := mSt_7 (Or.inl rfl) hm 0 0
  refine kwX7_pass_0 hC hE ?_
  simp only [kbX7_pass_0, mX7_pass, kblk, kstp, kent, kpad, kget, kst1, kst2, kc2, cond_false, cond_true, kfv, kfit, kOkf, kputv, kputD, kputG, kcpy, kcat, kRR, kNN, true_and, and_true, if_true, if_false, if_pos, Nat.reduceAdd, Nat.reduceEqDiff, Nat.reduceLeDiff, Nat.reduceLT, reduceIte, Prod.mk.injEq, eq_self, false_and, and_false, reduceCtorEq, Nat.reduceSub, List.reverse_cons, List.reverse_nil, List.nil_append, List.cons_append, Option.toList_some, Option.toList_none, not_true_eq_false, not_false_eq_true, h7]
  refine KW_callS hC (by decide +kernel) kl7_41 (by decide) ((m7_isIn (km (kput D (7, 4, 0) 0 0) G) n 1 200)) rfl rfl (by simp [kOkL, kOk, h7]) (by simp [kOkS]) (Nat.le_of_ble_eq_true rfl) (Nat.le_of_ble_eq_true rfl) (Nat.le_of_ble_eq_true rfl) ?_
  rintro v M' ⟨rfl, rfl⟩
  refine kwX7_pass_13 hC hE ?_
  simp only [kbX7_pass_13, mX7_pass, kblk, kstp, kent, kpad, kget, kst1, kst2, kc2, cond_false, cond_true, kfv, kfit, kOkf, kputv, kputD, kputG, kcpy, kcat, kRR, kNN, true_and, and_true, if_true, if_false, if_pos, Nat.reduceAdd, Nat.reduceEqDiff, Nat.reduceLeDiff, Nat.reduceLT, reduceIte, Prod.mk.injEq, eq_self, false_and, and_false, reduceCtorEq, Nat.reduceSub, List.reverse_cons, List.reverse_nil, List.nil_append, List.cons_append, Option.toList_some, Option.toList_none, not_true_eq_false, not_false_eq_true]
  refine ⟨fun h => ?_, fun h => ?_⟩
  · have hn : 1 ≤ n ∧ n ≤ 200 := Classical.byContradiction fun z => h (if_neg z)
    obtain ⟨k, k1, k2, rfl⟩ := in_range1 (n := 200) (by decide) hn
    have loop : ∀ (m i : Nat) (τ : KT) (D' : KI → Nat → Int32) (up : Int32), i + m = k → up + tStepsUp m τ = tStepsUp k σ → tSteps m τ = tSteps k σ → kWf0 (b + i) hf 0 hf τ → mSt 2 D' τ → mTop D' τ → kOff 2 D' (kput D (7, 4, 0) 0 0) → KW X 26 [some (kR (some (7, 4, 0))), some (kI (nI k)), some (kI up), some (kI (nI i))] [] (km D' G) 0 0 := by
      intro m
      induction m with
      | zero =>
        intro i τ D' up him h1 h2 h3 h4 h5 h6
        have hi : i = k := by omega
        subst hi
        refine kwX7_pass_26 hC hE ?_
        simp only [kbX7_pass_26, mX7_pass, kblk, kstp, kent, kpad, kget, kst1, kst2, kc2, cond_false, cond_true, kfv, kfit, kOkf, kputv, kputD, kputG, kcpy, kcat, kRR, kNN, true_and, and_true, if_true, if_false, if_pos, Nat.reduceAdd, Nat.reduceEqDiff, Nat.reduceLeDiff, Nat.reduceLT, reduceIte, Prod.mk.injEq, eq_self, false_and, and_false, reduceCtorEq, Nat.reduceSub, List.reverse_cons, List.reverse_nil, List.nil_append, List.cons_append, Option.toList_some, Option.toList_none, not_true_eq_false, not_false_eq_true]
        refine ⟨fun _ => ?_, fun w => absurd (nI_le (Nat.le_refl _) (by omega)) w⟩
        refine kwX7_pass_47 hC hE ?_
        simp only [kbX7_pass_47, mX7_pass, kblk, kstp, kent, kpad, kget, kst1, kst2, kc2, cond_false, cond_true, kfv, kfit, kOkf, kputv, kputD, kputG, kcpy, kcat, kRR, kNN, true_and, and_true, if_true, if_false, if_pos, Nat.reduceAdd, Nat.reduceEqDiff, Nat.reduceLeDiff, Nat.reduceLT, reduceIte, Prod.mk.injEq, eq_self, false_and, and_false, reduceCtorEq, Nat.reduceSub, List.reverse_cons, List.reverse_nil, List.nil_append, List.cons_append, Option.toList_some, Option.toList_none, not_true_eq_false, not_false_eq_true]
        have e1 : up = tStepsUp i σ := by rw [← h1]; exact (Int32.add_zero _).symm
        have e2 : τ = tSteps i σ := h2
        subst e2
        exact ⟨Or.inl ⟨i, k1, k2, rfl, by rw [e1], mPub.of (thr_2 h6) h5 h4 (off_2 h6)⟩, trivial, Nat.le_refl _, Nat.le_refl _⟩
      | succ m ih =>
        intro i τ D' up him h1 h2 h3 h4 h5 h6
        refine kwX7_pass_26 hC hE ?_
        simp only [kbX7_pass_26, mX7_pass, kblk, kstp, kent, kpad, kget, kst1, kst2, kc2, cond_false, cond_true, kfv, kfit, kOkf, kputv, kputD, kputG, kcpy, kcat, kRR, kNN, true_and, and_true, if_true, if_false, if_pos, Nat.reduceAdd, Nat.reduceEqDiff, Nat.reduceLeDiff, Nat.reduceLT, reduceIte, Prod.mk.injEq, eq_self, false_and, and_false, reduceCtorEq, Nat.reduceSub, List.reverse_cons, List.reverse_nil, List.nil_append, List.cons_append, Option.toList_some, Option.toList_none, not_true_eq_false, not_false_eq_true]
        refine ⟨fun w => absurd w (nI_ge (by omega) (by omega)), fun _ => ?_⟩
        refine kwX7_pass_31 hC hE ?_
        simp only [kbX7_pass_31, mX7_pass, kblk, kstp, kent, kpad, kget, kst1, kst2, kc2, cond_false, cond_true, kfv, kfit, kOkf, kputv, kputD, kputG, kcpy, kcat, kRR, kNN, true_and, and_true, if_true, if_false, if_pos, Nat.reduceAdd, Nat.reduceEqDiff, Nat.reduceLeDiff, Nat.reduceLT, reduceIte, Prod.mk.injEq, eq_self, false_and, and_false, reduceCtorEq, Nat.reduceSub, List.reverse_cons, List.reverse_nil, List.nil_append, List.cons_append, Option.toList_some, Option.toList_none, not_true_eq_false, not_false_eq_true, h7]
        refine KW_callV hC (by decide +kernel) kl7_131 (by decide) ((m_pass (Or.inl rfl) h5 h4 h3 (by omega))) rfl rfl (Nat.le_of_ble_eq_true rfl) rfl hx (by simp [kOkL, kOk, h7, hx]) (by simp [kOkS, kOk]) (Nat.le_of_ble_eq_true rfl) (Nat.le_of_ble_eq_true rfl) (Nat.le_of_ble_eq_true rfl) ?_
        rintro v M' ⟨rfl, D2, rfl, hm2, ho2⟩
        refine kwX7_pass_39 hC hE ?_
        simp only [kbX7_pass_39, mX7_pass, kblk, kstp, kent, kpad, kget, kst1, kst2, kc2, cond_false, cond_true, kfv, kfit, kOkf, kputv, kputD, kputG, kcpy, kcat, kRR, kNN, true_and, and_true, if_true, if_false, if_pos, Nat.reduceAdd, Nat.reduceEqDiff, Nat.reduceLeDiff, Nat.reduceLT, reduceIte, Prod.mk.injEq, eq_self, false_and, and_false, reduceCtorEq, Nat.reduceSub, List.reverse_cons, List.reverse_nil, List.nil_append, List.cons_append, Option.toList_some, Option.toList_none, not_true_eq_false, not_false_eq_true, nI_1]
        refine ih (i + 1) (tStep τ) D2 (up + tStepUp τ) (by omega) ?_ h2 h3.step hm2 (h5.same (Or.inl rfl) ho2).step (ho2.trans h6)
        rw [← h1]
        simp only [tStepsUp]
        rw [Int32.add_assoc]
    refine kwX7_pass_22 hC hE ?_
    simp only [kbX7_pass_22, mX7_pass, kblk, kstp, kent, kpad, kget, kst1, kst2, kc2, cond_false, cond_true, kfv, kfit, kOkf, kputv, kputD, kputG, kcpy, kcat, kRR, kNN, true_and, and_true, if_true, if_false, if_pos, Nat.reduceAdd, Nat.reduceEqDiff, Nat.reduceLeDiff, Nat.reduceLT, reduceIte, Prod.mk.injEq, eq_self, false_and, and_false, reduceCtorEq, Nat.reduceSub, List.reverse_cons, List.reverse_nil, List.nil_append, List.cons_append, Option.toList_some, Option.toList_none, not_true_eq_false, not_false_eq_true]
    exact loop k 0 σ _ 0 (by omega) (Int32.zero_add _) rfl hw hm0 ht0 kOff.refl
  · have hn : ¬ (1 ≤ n ∧ n ≤ 200) := fun z => by rw [if_pos z] at h; exact absurd h (by decide)
    refine kwX7_pass_16 hC hE ?_
    simp only [kbX7_pass_16, mX7_pass, kblk, kstp, kent, kpad, kget, kst1, kst2, kc2, cond_false, cond_true, kfv, kfit, kOkf, kputv, kputD, kputG, kcpy, kcat, kRR, kNN, true_and, and_true, if_true, if_false, if_pos, Nat.reduceAdd, Nat.reduceEqDiff, Nat.reduceLeDiff, Nat.reduceLT, reduceIte, Prod.mk.injEq, eq_self, false_and, and_false, reduceCtorEq, Nat.reduceSub, List.reverse_cons, List.reverse_nil, List.nil_append, List.cons_append, Option.toList_some, Option.toList_none, not_true_eq_false, not_false_eq_true]
    refine KW_callV hC (by decide +kernel) kl7_48 (by decide) ((m7_no 1)) rfl rfl (Nat.le_of_ble_eq_true rfl) rfl h7 (by simp [kOkL, kOk, h7]) (by simp [kOkS]) (Nat.le_of_ble_eq_true rfl) (Nat.le_of_ble_eq_true rfl) (Nat.le_of_ble_eq_true rfl) ?_
    rintro v M' ⟨rfl, rfl⟩
    refine kwX7_pass_21 hC hE ?_
    simp only [kbX7_pass_21, mX7_pass, kblk, kstp, kent, kpad, kget, kst1, kst2, kc2, cond_false, cond_true, kfv, kfit, kOkf, kputv, kputD, kputG, kcpy, kcat, kRR, kNN, true_and, and_true, if_true, if_false, if_pos, Nat.reduceAdd, Nat.reduceEqDiff, Nat.reduceLeDiff, Nat.reduceLT, reduceIte, Prod.mk.injEq, eq_self, false_and, and_false, reduceCtorEq, Nat.reduceSub, List.reverse_cons, List.reverse_nil, List.nil_append, List.cons_append, Option.toList_some, Option.toList_none, not_true_eq_false, not_false_eq_true]
    exact ⟨Or.inr ⟨hn, rfl, mPub_no ht hm 1⟩, trivial, Nat.le_refl _, Nat.le_refl _⟩
theorem mPub_3 (ht : mTop D σ) (hm : mSt 2 D σ) {D' : KI → Nat → Int32} (ho : kOff 3 D' (kput D (7, 4, 0) 0 0)) : mPub D G σ 0 (km D' G) := by
  have hm0 := mSt_7 (Or.inl rfl) hm 0 0
  refine mPub.of ?_ ((mTop_thr ht 0).same (Or.inr rfl) ho) (mSt_off hm0 (ho _ (by decide)) (fun k => ho _ (by simp))) (fun i hi => (ho i (by omega)).trans (off_7 i hi))
  rw [ho _ (by decide)]; simp [kput]
theorem lt3 {t : Int32} : t ≤ 2 ↔ t < 3 := by
  rw [Int32.le_iff_toInt_le, Int32.lt_iff_toInt_lt, show (2 : Int32).toInt = 2 from rfl, show (3 : Int32).toInt = 3 from rfl]
  omega
theorem m7_foresee (ht : mTop D σ) (hm : mSt 2 D σ) {b hf : Nat} (hw : kWf0 b hf 0 hf σ) (hb : b + 200 < 2 ^ 30) (n u : Int32) : SpQ mX7_foresee 0 0 [kR (some (7, 4, 0)), kI n, kI u] (km D G) (fun v M' => (∃ k, 1 ≤ k ∧ k ≤ 150 ∧ n = nI k ∧ (0 ≤ u ∧ u < 3) ∧ v = some (kI (if u = 0 then tStepsUp k σ else if u = 1 then tPeople (tSteps k σ) 0 else tCold (tSteps k σ) - tCold σ)) ∧ mPub D G σ 0 M') ∨ (¬ (1 ≤ n ∧ n ≤ 150) ∧ v = some (kI 0) ∧ mPub D G σ 1 M') ∨ ((1 ≤ n ∧ n ≤ 150) ∧ ¬ (0 ≤ u ∧ u < 3) ∧ v = some (kI 0) ∧ mPub D G σ 2 M')) := by
  refine SpQ_of (own := 7) (ini := false) (by decide +kernel) rfl (by decide) (Nat.le_of_ble_eq_true rfl) ?_
  intro X hC hE hL0
  have h7 := mLive7
  have hx := mLive (P := 2) (Or.inl rfl)
  have ht0 := mTop_thr ht 0
  have hm0 := mSt_7 (Or.inl rfl) hm 0 0
  have hx3 := mLive (P := 3) (Or.inr rfl)
  refine kwX7_foresee_0 hC hE ?_
  simp only [kbX7_foresee_0, mX7_foresee, kblk, kstp, kent, kpad, kget, kst1, kst2, kc2, cond_false, cond_true, kfv, kfit, kOkf, kputv, kputD, kputG, kcpy, kcat, kRR, kNN, true_and, and_true, if_true, if_false, if_pos, Nat.reduceAdd, Nat.reduceEqDiff, Nat.reduceLeDiff, Nat.reduceLT, reduceIte, Prod.mk.injEq, eq_self, false_and, and_false, reduceCtorEq, Nat.reduceSub, List.reverse_cons, List.reverse_nil, List.nil_append, List.cons_append, Option.toList_some, Option.toList_none, not_true_eq_false, not_false_eq_true, h7]
  refine KW_callS hC (by decide +kernel) kl7_41 (by decide) ((m7_isIn (km (kput D (7, 4, 0) 0 0) G) n 1 150)) rfl rfl (by simp [kOkL, kOk, h7]) (by simp [kOkS]) (Nat.le_of_ble_eq_true rfl) (Nat.le_of_ble_eq_true rfl) (Nat.le_of_ble_eq_true rfl) ?_
  rintro v M' ⟨rfl, rfl⟩
  refine kwX7_foresee_13 hC hE ?_
  simp only [kbX7_foresee_13, mX7_foresee, kblk, kstp, kent, kpad, kget, kst1, kst2, kc2, cond_false, cond_true, kfv, kfit, kOkf, kputv, kputD, kputG, kcpy, kcat, kRR, kNN, true_and, and_true, if_true, if_false, if_pos, Nat.reduceAdd, Nat.reduceEqDiff, Nat.reduceLeDiff, Nat.reduceLT, reduceIte, Prod.mk.injEq, eq_self, false_and, and_false, reduceCtorEq, Nat.reduceSub, List.reverse_cons, List.reverse_nil, List.nil_append, List.cons_append, Option.toList_some, Option.toList_none, not_true_eq_false, not_false_eq_true]
  refine ⟨fun h => ?_, fun h => ?_⟩
  · have hn : 1 ≤ n ∧ n ≤ 150 := Classical.byContradiction fun z => h (if_neg z)
    obtain ⟨k, k1, k2, rfl⟩ := in_range1 (n := 150) (by decide) hn
    refine kwX7_foresee_22 hC hE ?_
    simp only [kbX7_foresee_22, mX7_foresee, kblk, kstp, kent, kpad, kget, kst1, kst2, kc2, cond_false, cond_true, kfv, kfit, kOkf, kputv, kputD, kputG, kcpy, kcat, kRR, kNN, true_and, and_true, if_true, if_false, if_pos, Nat.reduceAdd, Nat.reduceEqDiff, Nat.reduceLeDiff, Nat.reduceLT, reduceIte, Prod.mk.injEq, eq_self, false_and, and_false, reduceCtorEq, Nat.reduceSub, List.reverse_cons, List.reverse_nil, List.nil_append, List.cons_append, Option.toList_some, Option.toList_none, not_true_eq_false, not_false_eq_true]
    refine KW_callS hC (by decide +kernel) kl7_41 (by decide) ((m7_isIn (km (kput D (7, 4, 0) 0 0) G) u 0 2)) rfl rfl (by simp [kOkL, kOk, h7]) (by simp [kOkS]) (Nat.le_of_ble_eq_true rfl) (Nat.le_of_ble_eq_true rfl) (Nat.le_of_ble_eq_true rfl) ?_
    rintro v M' ⟨rfl, rfl⟩
    refine kwX7_foresee_28 hC hE ?_
    simp only [kbX7_foresee_28, mX7_foresee, kblk, kstp, kent, kpad, kget, kst1, kst2, kc2, cond_false, cond_true, kfv, kfit, kOkf, kputv, kputD, kputG, kcpy, kcat, kRR, kNN, true_and, and_true, if_true, if_false, if_pos, Nat.reduceAdd, Nat.reduceEqDiff, Nat.reduceLeDiff, Nat.reduceLT, reduceIte, Prod.mk.injEq, eq_self, false_and, and_false, reduceCtorEq, Nat.reduceSub, List.reverse_cons, List.reverse_nil, List.nil_append, List.cons_append, Option.toList_some, Option.toList_none, not_true_eq_false, not_false_eq_true]
    refine ⟨fun h2 => ?_, fun h2 => ?_⟩
    · have hu0 : 0 ≤ u ∧ u ≤ 2 := Classical.byContradiction fun z => h2 (if_neg z)
      have hu : 0 ≤ u ∧ u < 3 := ⟨hu0.1, lt3.mp hu0.2⟩
      have loop : ∀ (m i : Nat) (τ : KT) (D' : KI → Nat → Int32) (up : Int32), i + m = k → up + tStepsUp m τ = tStepsUp k σ → tSteps m τ = tSteps k σ → kWf0 (b + i) hf 0 hf τ → mSt 3 D' τ → mTop D' τ → kOff 3 D' (kput D (7, 4, 0) 0 0) → KW X 53 [some (kR (some (7, 4, 0))), some (kI (nI k)), some (kI u), some (kI up), some (kI (nI i))] [] (km D' G) 0 0 := by
        intro m
        induction m with
        | zero =>
          intro i τ D' up him h1 h2 h3 h4 h5 h6
          have hi : i = k := by omega
          subst hi
          have e1 : up = tStepsUp i σ := by rw [← h1]; exact (Int32.add_zero _).symm
          have e2 : τ = tSteps i σ := h2
          subst e2
          have fin : ∀ v, v = (if u = 0 then tStepsUp i σ else if u = 1 then tPeople (tSteps i σ) 0 else tCold (tSteps i σ) - tCold σ) → KW X 114 [some (kR (some (7, 4, 0))), some (kI (nI i)), some (kI u), some (kI up), some (kI (nI i))] [kI v] (km D' G) 0 0 := by
            intro v hv
            refine kwX7_foresee_114 hC hE ?_
            simp only [kbX7_foresee_114, mX7_foresee, kblk, kstp, kent, kpad, kget, kst1, kst2, kc2, cond_false, cond_true, kfv, kfit, kOkf, kputv, kputD, kputG, kcpy, kcat, kRR, kNN, true_and, and_true, if_true, if_false, if_pos, Nat.reduceAdd, Nat.reduceEqDiff, Nat.reduceLeDiff, Nat.reduceLT, reduceIte, Prod.mk.injEq, eq_self, false_and, and_false, reduceCtorEq, Nat.reduceSub, List.reverse_cons, List.reverse_nil, List.nil_append, List.cons_append, Option.toList_some, Option.toList_none, not_true_eq_false, not_false_eq_true]
            exact ⟨Or.inl ⟨i, k1, k2, rfl, hu, by rw [hv], mPub_3 ht hm h6⟩, trivial, Nat.le_refl _, Nat.le_refl _⟩
          refine kwX7_foresee_53 hC hE ?_
          simp only [kbX7_foresee_53, mX7_foresee, kblk, kstp, kent, kpad, kget, kst1, kst2, kc2, cond_false, cond_true, kfv, kfit, kOkf, kputv, kputD, kputG, kcpy, kcat, kRR, kNN, true_and, and_true, if_true, if_false, if_pos, Nat.reduceAdd, Nat.reduceEqDiff, Nat.reduceLeDiff, Nat.reduceLT, reduceIte, Prod.mk.injEq, eq_self, false_and, and_false, reduceCtorEq, Nat.reduceSub, List.reverse_cons, List.reverse_nil, List.nil_append, List.cons_append, Option.toList_some, Option.toList_none, not_true_eq_false, not_false_eq_true]
          refine ⟨fun _ => ?_, fun w => absurd (nI_le (Nat.le_refl _) (by omega)) w⟩
          refine kwX7_foresee_75 hC hE ?_
          simp only [kbX7_foresee_75, mX7_foresee, kblk, kstp, kent, kpad, kget, kst1, kst2, kc2, cond_false, cond_true, kfv, kfit, kOkf, kputv, kputD, kputG, kcpy, kcat, kRR, kNN, true_and, and_true, if_true, if_false, if_pos, Nat.reduceAdd, Nat.reduceEqDiff, Nat.reduceLeDiff, Nat.reduceLT, reduceIte, Prod.mk.injEq, eq_self, false_and, and_false, reduceCtorEq, Nat.reduceSub, List.reverse_cons, List.reverse_nil, List.nil_append, List.cons_append, Option.toList_some, Option.toList_none, not_true_eq_false, not_false_eq_true]
          refine ⟨fun u0 => ?_, fun u0 => ?_⟩
          · refine kwX7_foresee_83 hC hE ?_
            simp only [kbX7_foresee_83, mX7_foresee, kblk, kstp, kent, kpad, kget, kst1, kst2, kc2, cond_false, cond_true, kfv, kfit, kOkf, kputv, kputD, kputG, kcpy, kcat, kRR, kNN, true_and, and_true, if_true, if_false, if_pos, Nat.reduceAdd, Nat.reduceEqDiff, Nat.reduceLeDiff, Nat.reduceLT, reduceIte, Prod.mk.injEq, eq_self, false_and, and_false, reduceCtorEq, Nat.reduceSub, List.reverse_cons, List.reverse_nil, List.nil_append, List.cons_append, Option.toList_some, Option.toList_none, not_true_eq_false, not_false_eq_true]
            refine ⟨fun u1 => ?_, fun u1 => ?_⟩
            · have c5 : D' (6, 3, 0) 5 = tCold (tSteps i σ) := h4.1.2.2.2.2.2.1
              have c5' : D' (6, 2, 0) 5 = tCold σ := by
                rw [h6 _ (by decide)]; exact hm0.1.2.2.2.2.2.1
              refine kwX7_foresee_99 hC hE ?_
              simp only [kbX7_foresee_99, mX7_foresee, kblk, kstp, kent, kpad, kget, kst1, kst2, kc2, cond_false, cond_true, kfv, kfit, kOkf, kputv, kputD, kputG, kcpy, kcat, kRR, kNN, true_and, and_true, if_true, if_false, if_pos, Nat.reduceAdd, Nat.reduceEqDiff, Nat.reduceLeDiff, Nat.reduceLT, reduceIte, Prod.mk.injEq, eq_self, false_and, and_false, reduceCtorEq, Nat.reduceSub, List.reverse_cons, List.reverse_nil, List.nil_append, List.cons_append, Option.toList_some, Option.toList_none, not_true_eq_false, not_false_eq_true, h7, hx, hx3, c5, c5']
              exact fin _ (by rw [if_neg u0, if_neg u1])
            · refine kwX7_foresee_88 hC hE ?_
              simp only [kbX7_foresee_88, mX7_foresee, kblk, kstp, kent, kpad, kget, kst1, kst2, kc2, cond_false, cond_true, kfv, kfit, kOkf, kputv, kputD, kputG, kcpy, kcat, kRR, kNN, true_and, and_true, if_true, if_false, if_pos, Nat.reduceAdd, Nat.reduceEqDiff, Nat.reduceLeDiff, Nat.reduceLT, reduceIte, Prod.mk.injEq, eq_self, false_and, and_false, reduceCtorEq, Nat.reduceSub, List.reverse_cons, List.reverse_nil, List.nil_append, List.cons_append, Option.toList_some, Option.toList_none, not_true_eq_false, not_false_eq_true, h7]
              refine KW_callV hC (by decide +kernel) kl7_137 (by decide) ((m_people (Or.inr rfl) h4 h3.1.1 0)) rfl rfl (Nat.le_of_ble_eq_true rfl) rfl hx3 (by simp [kOkL, kOk, h7, hx, hx3]) (by simp [kOkS, kOk, h7]) (Nat.le_of_ble_eq_true rfl) (Nat.le_of_ble_eq_true rfl) (Nat.le_of_ble_eq_true rfl) ?_
              rintro v M' ⟨rfl, rfl⟩
              refine kwX7_foresee_96 hC hE ?_
              simp only [kbX7_foresee_96, mX7_foresee, kblk, kstp, kent, kpad, kget, kst1, kst2, kc2, cond_false, cond_true, kfv, kfit, kOkf, kputv, kputD, kputG, kcpy, kcat, kRR, kNN, true_and, and_true, if_true, if_false, if_pos, Nat.reduceAdd, Nat.reduceEqDiff, Nat.reduceLeDiff, Nat.reduceLT, reduceIte, Prod.mk.injEq, eq_self, false_and, and_false, reduceCtorEq, Nat.reduceSub, List.reverse_cons, List.reverse_nil, List.nil_append, List.cons_append, Option.toList_some, Option.toList_none, not_true_eq_false, not_false_eq_true]
              exact fin _ (by rw [if_neg u0, if_pos u1])
          · refine kwX7_foresee_79 hC hE ?_
            simp only [kbX7_foresee_79, mX7_foresee, kblk, kstp, kent, kpad, kget, kst1, kst2, kc2, cond_false, cond_true, kfv, kfit, kOkf, kputv, kputD, kputG, kcpy, kcat, kRR, kNN, true_and, and_true, if_true, if_false, if_pos, Nat.reduceAdd, Nat.reduceEqDiff, Nat.reduceLeDiff, Nat.reduceLT, reduceIte, Prod.mk.injEq, eq_self, false_and, and_false, reduceCtorEq, Nat.reduceSub, List.reverse_cons, List.reverse_nil, List.nil_append, List.cons_append, Option.toList_some, Option.toList_none, not_true_eq_false, not_false_eq_true]
            exact fin _ (by rw [if_pos u0, e1])
        | succ m ih =>
          intro i τ D' up him h1 h2 h3 h4 h5 h6
          refine kwX7_foresee_53 hC hE ?_
          simp only [kbX7_foresee_53, mX7_foresee, kblk, kstp, kent, kpad, kget, kst1, kst2, kc2, cond_false, cond_true, kfv, kfit, kOkf, kputv, kputD, kputG, kcpy, kcat, kRR, kNN, true_and, and_true, if_true, if_false, if_pos, Nat.reduceAdd, Nat.reduceEqDiff, Nat.reduceLeDiff, Nat.reduceLT, reduceIte, Prod.mk.injEq, eq_self, false_and, and_false, reduceCtorEq, Nat.reduceSub, List.reverse_cons, List.reverse_nil, List.nil_append, List.cons_append, Option.toList_some, Option.toList_none, not_true_eq_false, not_false_eq_true]
          refine ⟨fun w => absurd w (nI_ge (by omega) (by omega)), fun _ => ?_⟩
          refine kwX7_foresee_59 hC hE ?_
          simp only [kbX7_foresee_59, mX7_foresee, kblk, kstp, kent, kpad, kget, kst1, kst2, kc2, cond_false, cond_true, kfv, kfit, kOkf, kputv, kputD, kputG, kcpy, kcat, kRR, kNN, true_and, and_true, if_true, if_false, if_pos, Nat.reduceAdd, Nat.reduceEqDiff, Nat.reduceLeDiff, Nat.reduceLT, reduceIte, Prod.mk.injEq, eq_self, false_and, and_false, reduceCtorEq, Nat.reduceSub, List.reverse_cons, List.reverse_nil, List.nil_append, List.cons_append, Option.toList_some, Option.toList_none, not_true_eq_false, not_false_eq_true, h7]
          refine KW_callV hC (by decide +kernel) kl7_131 (by decide) ((m_pass (Or.inr rfl) h5 h4 h3 (by omega))) rfl rfl (Nat.le_of_ble_eq_true rfl) rfl hx3 (by simp [kOkL, kOk, h7, hx, hx3]) (by simp [kOkS, kOk, h7]) (Nat.le_of_ble_eq_true rfl) (Nat.le_of_ble_eq_true rfl) (Nat.le_of_ble_eq_true rfl) ?_
          rintro v M' ⟨rfl, D2, rfl, hm2, ho2⟩
          refine kwX7_foresee_67 hC hE ?_
          simp only [kbX7_foresee_67, mX7_foresee, kblk, kstp, kent, kpad, kget, kst1, kst2, kc2, cond_false, cond_true, kfv, kfit, kOkf, kputv, kputD, kputG, kcpy, kcat, kRR, kNN, true_and, and_true, if_true, if_false, if_pos, Nat.reduceAdd, Nat.reduceEqDiff, Nat.reduceLeDiff, Nat.reduceLT, reduceIte, Prod.mk.injEq, eq_self, false_and, and_false, reduceCtorEq, Nat.reduceSub, List.reverse_cons, List.reverse_nil, List.nil_append, List.cons_append, Option.toList_some, Option.toList_none, not_true_eq_false, not_false_eq_true, nI_1]
          refine ih (i + 1) (tStep τ) D2 (up + tStepUp τ) (by omega) ?_ h2 h3.step hm2 (h5.same (Or.inr rfl) ho2).step (ho2.trans h6)
          rw [← h1]
          simp only [tStepsUp]
          rw [Int32.add_assoc]
      refine kwX7_foresee_37 hC hE ?_
      simp only [kbX7_foresee_37, mX7_foresee, kblk, kstp, kent, kpad, kget, kst1, kst2, kc2, cond_false, cond_true, kfv, kfit, kOkf, kputv, kputD, kputG, kcpy, kcat, kRR, kNN, true_and, and_true, if_true, if_false, if_pos, Nat.reduceAdd, Nat.reduceEqDiff, Nat.reduceLeDiff, Nat.reduceLT, reduceIte, Prod.mk.injEq, eq_self, false_and, and_false, reduceCtorEq, Nat.reduceSub, List.reverse_cons, List.reverse_nil, List.nil_append, List.cons_append, Option.toList_some, Option.toList_none, not_true_eq_false, not_false_eq_true, h7]
      refine KW_callV hC (by decide +kernel) kl7_152 (by decide) ((m_become hm0 hw.1 hw.qOK)) rfl rfl (Nat.le_of_ble_eq_true rfl) rfl hx3 (by simp [kOkL, kOk, h7, hx, hx3]) (by simp [kOkS, kOk, h7]) (Nat.le_of_ble_eq_true rfl) (Nat.le_of_ble_eq_true rfl) (Nat.le_of_ble_eq_true rfl) ?_
      rintro v M' ⟨rfl, D1, rfl, hm1, ho1⟩
      refine kwX7_foresee_48 hC hE ?_
      simp only [kbX7_foresee_48, mX7_foresee, kblk, kstp, kent, kpad, kget, kst1, kst2, kc2, cond_false, cond_true, kfv, kfit, kOkf, kputv, kputD, kputG, kcpy, kcat, kRR, kNN, true_and, and_true, if_true, if_false, if_pos, Nat.reduceAdd, Nat.reduceEqDiff, Nat.reduceLeDiff, Nat.reduceLT, reduceIte, Prod.mk.injEq, eq_self, false_and, and_false, reduceCtorEq, Nat.reduceSub, List.reverse_cons, List.reverse_nil, List.nil_append, List.cons_append, Option.toList_some, Option.toList_none, not_true_eq_false, not_false_eq_true]
      exact loop k 0 σ D1 0 (by omega) (Int32.zero_add _) rfl hw hm1 (ht0.same (Or.inr rfl) ho1) ho1
    · have hu : ¬ (0 ≤ u ∧ u < 3) := fun z => by rw [if_pos ⟨z.1, lt3.mpr z.2⟩] at h2; exact absurd h2 (by decide)
      refine kwX7_foresee_31 hC hE ?_
      simp only [kbX7_foresee_31, mX7_foresee, kblk, kstp, kent, kpad, kget, kst1, kst2, kc2, cond_false, cond_true, kfv, kfit, kOkf, kputv, kputD, kputG, kcpy, kcat, kRR, kNN, true_and, and_true, if_true, if_false, if_pos, Nat.reduceAdd, Nat.reduceEqDiff, Nat.reduceLeDiff, Nat.reduceLT, reduceIte, Prod.mk.injEq, eq_self, false_and, and_false, reduceCtorEq, Nat.reduceSub, List.reverse_cons, List.reverse_nil, List.nil_append, List.cons_append, Option.toList_some, Option.toList_none, not_true_eq_false, not_false_eq_true]
      refine KW_callV hC (by decide +kernel) kl7_48 (by decide) ((m7_no 2)) rfl rfl (Nat.le_of_ble_eq_true rfl) rfl h7 (by simp [kOkL, kOk, h7]) (by simp [kOkS]) (Nat.le_of_ble_eq_true rfl) (Nat.le_of_ble_eq_true rfl) (Nat.le_of_ble_eq_true rfl) ?_
      rintro v M' ⟨rfl, rfl⟩
      refine kwX7_foresee_36 hC hE ?_
      simp only [kbX7_foresee_36, mX7_foresee, kblk, kstp, kent, kpad, kget, kst1, kst2, kc2, cond_false, cond_true, kfv, kfit, kOkf, kputv, kputD, kputG, kcpy, kcat, kRR, kNN, true_and, and_true, if_true, if_false, if_pos, Nat.reduceAdd, Nat.reduceEqDiff, Nat.reduceLeDiff, Nat.reduceLT, reduceIte, Prod.mk.injEq, eq_self, false_and, and_false, reduceCtorEq, Nat.reduceSub, List.reverse_cons, List.reverse_nil, List.nil_append, List.cons_append, Option.toList_some, Option.toList_none, not_true_eq_false, not_false_eq_true]
      exact ⟨Or.inr (Or.inr ⟨hn, hu, rfl, mPub_no ht hm 2⟩), trivial, Nat.le_refl _, Nat.le_refl _⟩
  · have hn : ¬ (1 ≤ n ∧ n ≤ 150) := fun z => by rw [if_pos z] at h; exact absurd h (by decide)
    refine kwX7_foresee_16 hC hE ?_
    simp only [kbX7_foresee_16, mX7_foresee, kblk, kstp, kent, kpad, kget, kst1, kst2, kc2, cond_false, cond_true, kfv, kfit, kOkf, kputv, kputD, kputG, kcpy, kcat, kRR, kNN, true_and, and_true, if_true, if_false, if_pos, Nat.reduceAdd, Nat.reduceEqDiff, Nat.reduceLeDiff, Nat.reduceLT, reduceIte, Prod.mk.injEq, eq_self, false_and, and_false, reduceCtorEq, Nat.reduceSub, List.reverse_cons, List.reverse_nil, List.nil_append, List.cons_append, Option.toList_some, Option.toList_none, not_true_eq_false, not_false_eq_true]
    refine KW_callV hC (by decide +kernel) kl7_48 (by decide) ((m7_no 1)) rfl rfl (Nat.le_of_ble_eq_true rfl) rfl h7 (by simp [kOkL, kOk, h7]) (by simp [kOkS]) (Nat.le_of_ble_eq_true rfl) (Nat.le_of_ble_eq_true rfl) (Nat.le_of_ble_eq_true rfl) ?_
    rintro v M' ⟨rfl, rfl⟩
    refine kwX7_foresee_21 hC hE ?_
    simp only [kbX7_foresee_21, mX7_foresee, kblk, kstp, kent, kpad, kget, kst1, kst2, kc2, cond_false, cond_true, kfv, kfit, kOkf, kputv, kputD, kputG, kcpy, kcat, kRR, kNN, true_and, and_true, if_true, if_false, if_pos, Nat.reduceAdd, Nat.reduceEqDiff, Nat.reduceLeDiff, Nat.reduceLT, reduceIte, Prod.mk.injEq, eq_self, false_and, and_false, reduceCtorEq, Nat.reduceSub, List.reverse_cons, List.reverse_nil, List.nil_append, List.cons_append, Option.toList_some, Option.toList_none, not_true_eq_false, not_false_eq_true]
    exact ⟨Or.inr (Or.inl ⟨hn, rfl, mPub_no ht hm 1⟩), trivial, Nat.le_refl _, Nat.le_refl _⟩
theorem gOK_st {τ : KT} {g : Nat} (h : gOK τ g) : tZ τ 12 g = 0 ∨ tZ τ 12 g = 1 ∨ tZ τ 12 g = 2 ∨ tZ τ 12 g = 3 := by
  rcases h.2 with ⟨a, -⟩ | ⟨a, -⟩ | ⟨a, -⟩
  · exact Or.inl a
  · exact Or.inr (Or.inl a)
  · exact Or.inr (Or.inr a)
theorem m7_rises {τ : KT} (ht : mTop D τ) (hm : mSt 3 D τ) {b hf : Nat} (hw : kWf0 b hf 0 hf τ) {n g : Nat} (hn : n ≤ 250) (hb : b + n < 2 ^ 30) (hg : g < tG τ) : SpQ mX7_rises 0 0 [kR (some (7, 4, 0)), kI (nI g), kI (nI n)] (km D G) (fun v M' => v = some (kI (if tZ τ 12 g = 2 then 0 else tUntil g n 1 τ)) ∧ ∃ D', M' = km D' G ∧ kOff 3 D' D) := by
  refine SpQ_of (own := 7) (ini := false) (by decide +kernel) rfl (by decide) (Nat.le_of_ble_eq_true rfl) ?_
  intro X hC hE hL0
  have h7 := mLive7
  have hx := mLive (P := 2) (Or.inl rfl)
  have hx3 := mLive (P := 3) (Or.inr rfl)
  have l17 := mLive8 (P := 3) (k := 17) (Or.inr rfl) (by decide) (by decide)
  have n17 : kN8 3 17 = 91 := rfl
  have hG91 := hw.1.1.2.2.1
  have hcg := nI_clamp (show g < 2 ^ 31 by omega)
  generalize hV : (if tZ τ 12 g = 2 then 0 else tUntil g n 1 τ) = V
  have fin : ∀ (i : Nat) (τ' : KT) (D' : KI → Nat → Int32), g < tG τ' → mSt 3 D' τ' → kOff 3 D' D → (if tZ τ' 12 g = 2 then nI i else -1) = V → KW X 34 [some (kR (some (7, 4, 0))), some (kI (nI g)), some (kI (nI n)), some (kI (nI i))] [] (km D' G) 0 0 := by
    intro i τ' D' hg' h1 h2 h3
    have q17 := (h1.2.2.2.2.2.2.2 g hg').2.2.1
    refine kwX7_rises_34 hC hE ?_
    simp only [kbX7_rises_34, mX7_rises, kblk, kstp, kent, kpad, kget, kst1, kst2, kc2, cond_false, cond_true, kfv, kfit, kOkf, kputv, kputD, kputG, kcpy, kcat, kRR, kNN, true_and, and_true, if_true, if_false, if_pos, Nat.reduceAdd, Nat.reduceEqDiff, Nat.reduceLeDiff, Nat.reduceLT, reduceIte, Prod.mk.injEq, eq_self, false_and, and_false, reduceCtorEq, Nat.reduceSub, List.reverse_cons, List.reverse_nil, List.nil_append, List.cons_append, Option.toList_some, Option.toList_none, not_true_eq_false, not_false_eq_true, h7, hx3, l17, n17, hcg, q17]
    refine ⟨vp_in_nI (show g < 91 by omega) (by omega), fun w => ?_, fun w => ?_⟩
    · rw [if_neg w] at h3
      refine kwX7_rises_51 hC hE ?_
      simp only [kbX7_rises_51, mX7_rises, kblk, kstp, kent, kpad, kget, kst1, kst2, kc2, cond_false, cond_true, kfv, kfit, kOkf, kputv, kputD, kputG, kcpy, kcat, kRR, kNN, true_and, and_true, if_true, if_false, if_pos, Nat.reduceAdd, Nat.reduceEqDiff, Nat.reduceLeDiff, Nat.reduceLT, reduceIte, Prod.mk.injEq, eq_self, false_and, and_false, reduceCtorEq, Nat.reduceSub, List.reverse_cons, List.reverse_nil, List.nil_append, List.cons_append, Option.toList_some, Option.toList_none, not_true_eq_false, not_false_eq_true]
      refine kwX7_rises_52 hC hE ?_
      simp only [kbX7_rises_52, mX7_rises, kblk, kstp, kent, kpad, kget, kst1, kst2, kc2, cond_false, cond_true, kfv, kfit, kOkf, kputv, kputD, kputG, kcpy, kcat, kRR, kNN, true_and, and_true, if_true, if_false, if_pos, Nat.reduceAdd, Nat.reduceEqDiff, Nat.reduceLeDiff, Nat.reduceLT, reduceIte, Prod.mk.injEq, eq_self, false_and, and_false, reduceCtorEq, Nat.reduceSub, List.reverse_cons, List.reverse_nil, List.nil_append, List.cons_append, Option.toList_some, Option.toList_none, not_true_eq_false, not_false_eq_true]
      exact ⟨⟨by rw [h3, ← hV], D', rfl, h2⟩, trivial, Nat.le_refl _, Nat.le_refl _⟩
    · rw [if_pos w] at h3
      refine kwX7_rises_47 hC hE ?_
      simp only [kbX7_rises_47, mX7_rises, kblk, kstp, kent, kpad, kget, kst1, kst2, kc2, cond_false, cond_true, kfv, kfit, kOkf, kputv, kputD, kputG, kcpy, kcat, kRR, kNN, true_and, and_true, if_true, if_false, if_pos, Nat.reduceAdd, Nat.reduceEqDiff, Nat.reduceLeDiff, Nat.reduceLT, reduceIte, Prod.mk.injEq, eq_self, false_and, and_false, reduceCtorEq, Nat.reduceSub, List.reverse_cons, List.reverse_nil, List.nil_append, List.cons_append, Option.toList_some, Option.toList_none, not_true_eq_false, not_false_eq_true]
      refine kwX7_rises_52 hC hE ?_
      simp only [kbX7_rises_52, mX7_rises, kblk, kstp, kent, kpad, kget, kst1, kst2, kc2, cond_false, cond_true, kfv, kfit, kOkf, kputv, kputD, kputG, kcpy, kcat, kRR, kNN, true_and, and_true, if_true, if_false, if_pos, Nat.reduceAdd, Nat.reduceEqDiff, Nat.reduceLeDiff, Nat.reduceLT, reduceIte, Prod.mk.injEq, eq_self, false_and, and_false, reduceCtorEq, Nat.reduceSub, List.reverse_cons, List.reverse_nil, List.nil_append, List.cons_append, Option.toList_some, Option.toList_none, not_true_eq_false, not_false_eq_true]
      exact ⟨⟨by rw [h3, ← hV], D', rfl, h2⟩, trivial, Nat.le_refl _, Nat.le_refl _⟩
  have loop : ∀ (m i : Nat) (τ' : KT) (D' : KI → Nat → Int32), i + m = n → g < tG τ' → kWf0 (b + i) hf 0 hf τ' → mSt 3 D' τ' → mTop D' τ' → kOff 3 D' D → (if tZ τ' 12 g = 2 then nI i else tUntil g m (i + 1) τ') = V → KW X 2 [some (kR (some (7, 4, 0))), some (kI (nI g)), some (kI (nI n)), some (kI (nI i))] [] (km D' G) 0 0 := by
    intro m
    induction m with
    | zero =>
      intro i τ' D' him hg' h3 h4 h5 h6 hv
      have hi : i = n := by omega
      subst hi
      refine kwX7_rises_2 hC hE ?_
      simp only [kbX7_rises_2, mX7_rises, kblk, kstp, kent, kpad, kget, kst1, kst2, kc2, cond_false, cond_true, kfv, kfit, kOkf, kputv, kputD, kputG, kcpy, kcat, kRR, kNN, true_and, and_true, if_true, if_false, if_pos, Nat.reduceAdd, Nat.reduceEqDiff, Nat.reduceLeDiff, Nat.reduceLT, reduceIte, Prod.mk.injEq, eq_self, false_and, and_false, reduceCtorEq, Nat.reduceSub, List.reverse_cons, List.reverse_nil, List.nil_append, List.cons_append, Option.toList_some, Option.toList_none, not_true_eq_false, not_false_eq_true]
      exact ⟨fun _ => fin i τ' D' hg' h4 h6 hv, fun w => absurd (nI_le (Nat.le_refl _) (by omega)) w⟩
    | succ m ih =>
      intro i τ' D' him hg' h3 h4 h5 h6 hv
      have q17 := (h4.2.2.2.2.2.2.2 g hg').2.2.1
      simp only [tUntil] at hv
      refine kwX7_rises_2 hC hE ?_
      simp only [kbX7_rises_2, mX7_rises, kblk, kstp, kent, kpad, kget, kst1, kst2, kc2, cond_false, cond_true, kfv, kfit, kOkf, kputv, kputD, kputG, kcpy, kcat, kRR, kNN, true_and, and_true, if_true, if_false, if_pos, Nat.reduceAdd, Nat.reduceEqDiff, Nat.reduceLeDiff, Nat.reduceLT, reduceIte, Prod.mk.injEq, eq_self, false_and, and_false, reduceCtorEq, Nat.reduceSub, List.reverse_cons, List.reverse_nil, List.nil_append, List.cons_append, Option.toList_some, Option.toList_none, not_true_eq_false, not_false_eq_true]
      refine ⟨fun w => absurd w (nI_ge (by omega) (by omega)), fun _ => ?_⟩
      refine kwX7_rises_7 hC hE ?_
      simp only [kbX7_rises_7, mX7_rises, kblk, kstp, kent, kpad, kget, kst1, kst2, kc2, cond_false, cond_true, kfv, kfit, kOkf, kputv, kputD, kputG, kcpy, kcat, kRR, kNN, true_and, and_true, if_true, if_false, if_pos, Nat.reduceAdd, Nat.reduceEqDiff, Nat.reduceLeDiff, Nat.reduceLT, reduceIte, Prod.mk.injEq, eq_self, false_and, and_false, reduceCtorEq, Nat.reduceSub, List.reverse_cons, List.reverse_nil, List.nil_append, List.cons_append, Option.toList_some, Option.toList_none, not_true_eq_false, not_false_eq_true, h7, hx3, l17, n17, hcg, q17]
      refine ⟨vp_in_nI (show g < 91 by omega) (by omega), fun w => ?_, fun w => ?_⟩
      · refine fin i τ' D' hg' h4 h6 ?_
        rw [← hv]
        rcases gOK_st (h3.2.2.2.2.1 g hg') with e | e | e | e
        · rw [e] at w; exact absurd w (by decide)
        · rw [e] at w; exact absurd w (by decide)
        · rw [if_pos e, if_pos e]
        · have : ¬ tZ τ' 12 g = 2 := by rw [e]; decide
          rw [if_neg this, if_neg this, if_pos e]
      · have n2 : ¬ tZ τ' 12 g = 2 := fun z => w (by rw [z]; decide)
        have n3 : ¬ tZ τ' 12 g = 3 := fun z => w (by rw [z]; decide)
        rw [if_neg n2, if_neg n3] at hv
        refine kwX7_rises_20 hC hE ?_
        simp only [kbX7_rises_20, mX7_rises, kblk, kstp, kent, kpad, kget, kst1, kst2, kc2, cond_false, cond_true, kfv, kfit, kOkf, kputv, kputD, kputG, kcpy, kcat, kRR, kNN, true_and, and_true, if_true, if_false, if_pos, Nat.reduceAdd, Nat.reduceEqDiff, Nat.reduceLeDiff, Nat.reduceLT, reduceIte, Prod.mk.injEq, eq_self, false_and, and_false, reduceCtorEq, Nat.reduceSub, List.reverse_cons, List.reverse_nil, List.nil_append, List.cons_append, Option.toList_some, Option.toList_none, not_true_eq_false, not_false_eq_true, h7]
        refine KW_callV hC (by decide +kernel) kl7_131 (by decide) ((m_pass (Or.inr rfl) h5 h4 h3 (by omega))) rfl rfl (Nat.le_of_ble_eq_true rfl) rfl hx3 (by simp [kOkL, kOk, h7, hx, hx3]) (by simp [kOkS, kOk, h7]) (Nat.le_of_ble_eq_true rfl) (Nat.le_of_ble_eq_true rfl) (Nat.le_of_ble_eq_true rfl) ?_
        rintro v M' ⟨rfl, D2, rfl, hm2, ho2⟩
        refine kwX7_rises_27 hC hE ?_
        simp only [kbX7_rises_27, mX7_rises, kblk, kstp, kent, kpad, kget, kst1, kst2, kc2, cond_false, cond_true, kfv, kfit, kOkf, kputv, kputD, kputG, kcpy, kcat, kRR, kNN, true_and, and_true, if_true, if_false, if_pos, Nat.reduceAdd, Nat.reduceEqDiff, Nat.reduceLeDiff, Nat.reduceLT, reduceIte, Prod.mk.injEq, eq_self, false_and, and_false, reduceCtorEq, Nat.reduceSub, List.reverse_cons, List.reverse_nil, List.nil_append, List.cons_append, Option.toList_some, Option.toList_none, not_true_eq_false, not_false_eq_true, nI_1]
        exact ih (i + 1) (tStep τ') D2 (by omega) (by rw [tG_tStep]; exact hg') h3.step hm2 (h5.same (Or.inr rfl) ho2).step (ho2.trans h6) hv
  refine kwX7_rises_0 hC hE ?_
  simp only [kbX7_rises_0, mX7_rises, kblk, kstp, kent, kpad, kget, kst1, kst2, kc2, cond_false, cond_true, kfv, kfit, kOkf, kputv, kputD, kputG, kcpy, kcat, kRR, kNN, true_and, and_true, if_true, if_false, if_pos, Nat.reduceAdd, Nat.reduceEqDiff, Nat.reduceLeDiff, Nat.reduceLT, reduceIte, Prod.mk.injEq, eq_self, false_and, and_false, reduceCtorEq, Nat.reduceSub, List.reverse_cons, List.reverse_nil, List.nil_append, List.cons_append, Option.toList_some, Option.toList_none, not_true_eq_false, not_false_eq_true]
  exact loop n 0 τ D (by omega) hg hw hm ht kOff.refl hV
theorem m7_when (ht : mTop D σ) (hm : mSt 2 D σ) {b hf : Nat} (hw : kWf0 b hf 0 hf σ) (hb : b + 250 < 2 ^ 30) (c : Int32) : SpQ mX7_when 0 0 [kR (some (7, 4, 0)), kI c] (km D G) (fun v M' => (∃ g, g < tG σ ∧ c = nI g ∧ v = some (kI (if tZ σ 12 g = 2 then 0 else tUntil g 250 1 σ)) ∧ mPub D G σ 0 M') ∨ (¬ (0 ≤ c ∧ c < nI (tG σ)) ∧ v = some (kI 0) ∧ mPub D G σ 1 M')) := by
  refine SpQ_of (own := 7) (ini := false) (by decide +kernel) rfl (by decide) (Nat.le_of_ble_eq_true rfl) ?_
  intro X hC hE hL0
  have h7 := mLive7
  have hx := mLive (P := 2) (Or.inl rfl)
  have ht0 := mTop_thr ht 0
  have hm0 := mSt_7 (Or.inl rfl) hm 0 0
  have hx3 := mLive (P := 3) (Or.inr rfl)
  obtain ⟨bC, hL, hG, bS, bQ⟩ := hw.1.1
  refine kwX7_when_0 hC hE ?_
  simp only [kbX7_when_0, mX7_when, kblk, kstp, kent, kpad, kget, kst1, kst2, kc2, cond_false, cond_true, kfv, kfit, kOkf, kputv, kputD, kputG, kcpy, kcat, kRR, kNN, true_and, and_true, if_true, if_false, if_pos, Nat.reduceAdd, Nat.reduceEqDiff, Nat.reduceLeDiff, Nat.reduceLT, reduceIte, Prod.mk.injEq, eq_self, false_and, and_false, reduceCtorEq, Nat.reduceSub, List.reverse_cons, List.reverse_nil, List.nil_append, List.cons_append, Option.toList_some, Option.toList_none, not_true_eq_false, not_false_eq_true, h7]
  refine KW_callV hC (by decide +kernel) kl7_79 (by decide) ((m7_isGroup hm0 hG c)) rfl rfl (Nat.le_of_ble_eq_true rfl) rfl h7 (by simp [kOkL, kOk, h7]) (by simp [kOkS]) (Nat.le_of_ble_eq_true rfl) (Nat.le_of_ble_eq_true rfl) (Nat.le_of_ble_eq_true rfl) ?_
  rintro v M' ⟨rfl, rfl⟩
  refine kwX7_when_10 hC hE ?_
  simp only [kbX7_when_10, mX7_when, kblk, kstp, kent, kpad, kget, kst1, kst2, kc2, cond_false, cond_true, kfv, kfit, kOkf, kputv, kputD, kputG, kcpy, kcat, kRR, kNN, true_and, and_true, if_true, if_false, if_pos, Nat.reduceAdd, Nat.reduceEqDiff, Nat.reduceLeDiff, Nat.reduceLT, reduceIte, Prod.mk.injEq, eq_self, false_and, and_false, reduceCtorEq, Nat.reduceSub, List.reverse_cons, List.reverse_nil, List.nil_append, List.cons_append, Option.toList_some, Option.toList_none, not_true_eq_false, not_false_eq_true]
  refine ⟨fun h => ?_, fun h => ?_⟩
  · have hc : 0 ≤ c ∧ c < nI (tG σ) := Classical.byContradiction fun z => h (if_neg z)
    obtain ⟨g, hg, rfl⟩ := in_range (show tG σ < 2 ^ 31 by omega) hc
    refine kwX7_when_19 hC hE ?_
    simp only [kbX7_when_19, mX7_when, kblk, kstp, kent, kpad, kget, kst1, kst2, kc2, cond_false, cond_true, kfv, kfit, kOkf, kputv, kputD, kputG, kcpy, kcat, kRR, kNN, true_and, and_true, if_true, if_false, if_pos, Nat.reduceAdd, Nat.reduceEqDiff, Nat.reduceLeDiff, Nat.reduceLT, reduceIte, Prod.mk.injEq, eq_self, false_and, and_false, reduceCtorEq, Nat.reduceSub, List.reverse_cons, List.reverse_nil, List.nil_append, List.cons_append, Option.toList_some, Option.toList_none, not_true_eq_false, not_false_eq_true, h7]
    refine KW_callV hC (by decide +kernel) kl7_152 (by decide) ((m_become hm0 hw.1 hw.qOK)) rfl rfl (Nat.le_of_ble_eq_true rfl) rfl hx3 (by simp [kOkL, kOk, h7, hx, hx3]) (by simp [kOkS, kOk, h7]) (Nat.le_of_ble_eq_true rfl) (Nat.le_of_ble_eq_true rfl) (Nat.le_of_ble_eq_true rfl) ?_
    rintro v M' ⟨rfl, D1, rfl, hm1, ho1⟩
    refine kwX7_when_30 hC hE ?_
    simp only [kbX7_when_30, mX7_when, kblk, kstp, kent, kpad, kget, kst1, kst2, kc2, cond_false, cond_true, kfv, kfit, kOkf, kputv, kputD, kputG, kcpy, kcat, kRR, kNN, true_and, and_true, if_true, if_false, if_pos, Nat.reduceAdd, Nat.reduceEqDiff, Nat.reduceLeDiff, Nat.reduceLT, reduceIte, Prod.mk.injEq, eq_self, false_and, and_false, reduceCtorEq, Nat.reduceSub, List.reverse_cons, List.reverse_nil, List.nil_append, List.cons_append, Option.toList_some, Option.toList_none, not_true_eq_false, not_false_eq_true]
    refine KW_callV hC (by decide +kernel) kl7_156 (by decide) ((m7_rises (n := 250) (ht0.same (Or.inr rfl) ho1) hm1 hw (by decide) (by omega) hg)) rfl rfl (Nat.le_of_ble_eq_true rfl) rfl h7 (by simp [kOkL, kOk, h7]) (by simp [kOkS]) (Nat.le_of_ble_eq_true rfl) (Nat.le_of_ble_eq_true rfl) (Nat.le_of_ble_eq_true rfl) ?_
    rintro v M' ⟨rfl, D2, rfl, ho2⟩
    refine kwX7_when_38 hC hE ?_
    simp only [kbX7_when_38, mX7_when, kblk, kstp, kent, kpad, kget, kst1, kst2, kc2, cond_false, cond_true, kfv, kfit, kOkf, kputv, kputD, kputG, kcpy, kcat, kRR, kNN, true_and, and_true, if_true, if_false, if_pos, Nat.reduceAdd, Nat.reduceEqDiff, Nat.reduceLeDiff, Nat.reduceLT, reduceIte, Prod.mk.injEq, eq_self, false_and, and_false, reduceCtorEq, Nat.reduceSub, List.reverse_cons, List.reverse_nil, List.nil_append, List.cons_append, Option.toList_some, Option.toList_none, not_true_eq_false, not_false_eq_true]
    exact ⟨Or.inl ⟨g, hg, rfl, rfl, mPub_3 ht hm (ho2.trans ho1)⟩, trivial, Nat.le_refl _, Nat.le_refl _⟩
  · have hc : ¬ (0 ≤ c ∧ c < nI (tG σ)) := fun z => by rw [if_pos z] at h; exact absurd h (by decide)
    refine kwX7_when_13 hC hE ?_
    simp only [kbX7_when_13, mX7_when, kblk, kstp, kent, kpad, kget, kst1, kst2, kc2, cond_false, cond_true, kfv, kfit, kOkf, kputv, kputD, kputG, kcpy, kcat, kRR, kNN, true_and, and_true, if_true, if_false, if_pos, Nat.reduceAdd, Nat.reduceEqDiff, Nat.reduceLeDiff, Nat.reduceLT, reduceIte, Prod.mk.injEq, eq_self, false_and, and_false, reduceCtorEq, Nat.reduceSub, List.reverse_cons, List.reverse_nil, List.nil_append, List.cons_append, Option.toList_some, Option.toList_none, not_true_eq_false, not_false_eq_true]
    refine KW_callV hC (by decide +kernel) kl7_48 (by decide) ((m7_no 1)) rfl rfl (Nat.le_of_ble_eq_true rfl) rfl h7 (by simp [kOkL, kOk, h7]) (by simp [kOkS]) (Nat.le_of_ble_eq_true rfl) (Nat.le_of_ble_eq_true rfl) (Nat.le_of_ble_eq_true rfl) ?_
    rintro v M' ⟨rfl, rfl⟩
    refine kwX7_when_18 hC hE ?_
    simp only [kbX7_when_18, mX7_when, kblk, kstp, kent, kpad, kget, kst1, kst2, kc2, cond_false, cond_true, kfv, kfit, kOkf, kputv, kputD, kputG, kcpy, kcat, kRR, kNN, true_and, and_true, if_true, if_false, if_pos, Nat.reduceAdd, Nat.reduceEqDiff, Nat.reduceLeDiff, Nat.reduceLT, reduceIte, Prod.mk.injEq, eq_self, false_and, and_false, reduceCtorEq, Nat.reduceSub, List.reverse_cons, List.reverse_nil, List.nil_append, List.cons_append, Option.toList_some, Option.toList_none, not_true_eq_false, not_false_eq_true]
    exact ⟨Or.inr ⟨hc, rfl, mPub_no ht hm 1⟩, trivial, Nat.le_refl _, Nat.le_refl _⟩
theorem m7_needs (ht : mTop D σ) (hm : mSt 2 D σ) {b hf : Nat} (hw : kWf0 b hf 0 hf σ) (hb : b + 200 < 2 ^ 30) (p s : Int32) : SpQ mX7_needs 0 0 [kR (some (7, 4, 0)), kI p, kI s] (km D G) (fun v M' => (∃ k, 1 ≤ k ∧ k ≤ 100 ∧ s = nI k ∧ (1 ≤ p ∧ p ≤ 500) ∧ v = some (kI (tNeeds σ p k (tC σ + 1) 0)) ∧ mPub D G σ 0 M') ∨ (¬ ((1 ≤ p ∧ p ≤ 500) ∧ 1 ≤ s ∧ s ≤ 100) ∧ v = some (kI 0) ∧ mPub D G σ 1 M')) := by
  refine SpQ_of (own := 7) (ini := false) (by decide +kernel) rfl (by decide) (Nat.le_of_ble_eq_true rfl) ?_
  intro X hC hE hL0
  have h7 := mLive7
  have hx := mLive (P := 2) (Or.inl rfl)
  have ht0 := mTop_thr ht 0
  have hm0 := mSt_7 (Or.inl rfl) hm 0 0
  have hx3 := mLive (P := 3) (Or.inr rfl)
  obtain ⟨bC, hL, hG, bS, bQ⟩ := hw.1.1
  have bad : ¬ ((1 ≤ p ∧ p ≤ 500) ∧ 1 ≤ s ∧ s ≤ 100) → KW X 26 [some (kR (some (7, 4, 0))), some (kI p), some (kI s), none, none, none] [] (km (kput D (7, 4, 0) 0 0) G) 0 0 := by
    intro hn
    refine kwX7_needs_26 hC hE ?_
    simp only [kbX7_needs_26, mX7_needs, kblk, kstp, kent, kpad, kget, kst1, kst2, kc2, cond_false, cond_true, kfv, kfit, kOkf, kputv, kputD, kputG, kcpy, kcat, kRR, kNN, true_and, and_true, if_true, if_false, if_pos, Nat.reduceAdd, Nat.reduceEqDiff, Nat.reduceLeDiff, Nat.reduceLT, reduceIte, Prod.mk.injEq, eq_self, false_and, and_false, reduceCtorEq, Nat.reduceSub, List.reverse_cons, List.reverse_nil, List.nil_append, List.cons_append, Option.toList_some, Option.toList_none, not_true_eq_false, not_false_eq_true]
    refine KW_callV hC (by decide +kernel) kl7_48 (by decide) ((m7_no 1)) rfl rfl (Nat.le_of_ble_eq_true rfl) rfl h7 (by simp [kOkL, kOk, h7]) (by simp [kOkS]) (Nat.le_of_ble_eq_true rfl) (Nat.le_of_ble_eq_true rfl) (Nat.le_of_ble_eq_true rfl) ?_
    rintro v M' ⟨rfl, rfl⟩
    refine kwX7_needs_31 hC hE ?_
    simp only [kbX7_needs_31, mX7_needs, kblk, kstp, kent, kpad, kget, kst1, kst2, kc2, cond_false, cond_true, kfv, kfit, kOkf, kputv, kputD, kputG, kcpy, kcat, kRR, kNN, true_and, and_true, if_true, if_false, if_pos, Nat.reduceAdd, Nat.reduceEqDiff, Nat.reduceLeDiff, Nat.reduceLT, reduceIte, Prod.mk.injEq, eq_self, false_and, and_false, reduceCtorEq, Nat.reduceSub, List.reverse_cons, List.reverse_nil, List.nil_append, List.cons_append, Option.toList_some, Option.toList_none, not_true_eq_false, not_false_eq_true]
    exact ⟨Or.inr ⟨hn, rfl, mPub_no ht hm 1⟩, trivial, Nat.le_refl _, Nat.le_refl _⟩
  refine kwX7_needs_0 hC hE ?_
  simp only [kbX7_needs_0, mX7_needs, kblk, kstp, kent, kpad, kget, kst1, kst2, kc2, cond_false, cond_true, kfv, kfit, kOkf, kputv, kputD, kputG, kcpy, kcat, kRR, kNN, true_and, and_true, if_true, if_false, if_pos, Nat.reduceAdd, Nat.reduceEqDiff, Nat.reduceLeDiff, Nat.reduceLT, reduceIte, Prod.mk.injEq, eq_self, false_and, and_false, reduceCtorEq, Nat.reduceSub, List.reverse_cons, List.reverse_nil, List.nil_append, List.cons_append, Option.toList_some, Option.toList_none, not_true_eq_false, not_false_eq_true, h7]
  refine KW_callS hC (by decide +kernel) kl7_41 (by decide) ((m7_isIn (km (kput D (7, 4, 0) 0 0) G) p 1 500)) rfl rfl (by simp [kOkL, kOk, h7]) (by simp [kOkS]) (Nat.le_of_ble_eq_true rfl) (Nat.le_of_ble_eq_true rfl) (Nat.le_of_ble_eq_true rfl) ?_
  rintro v M' ⟨rfl, rfl⟩
  refine kwX7_needs_13 hC hE ?_
  simp only [kbX7_needs_13, mX7_needs, kblk, kstp, kent, kpad, kget, kst1, kst2, kc2, cond_false, cond_true, kfv, kfit, kOkf, kputv, kputD, kputG, kcpy, kcat, kRR, kNN, true_and, and_true, if_true, if_false, if_pos, Nat.reduceAdd, Nat.reduceEqDiff, Nat.reduceLeDiff, Nat.reduceLT, reduceIte, Prod.mk.injEq, eq_self, false_and, and_false, reduceCtorEq, Nat.reduceSub, List.reverse_cons, List.reverse_nil, List.nil_append, List.cons_append, Option.toList_some, Option.toList_none, not_true_eq_false, not_false_eq_true]
  refine ⟨fun h => bad (fun z => by rw [if_pos z.1] at h; exact absurd h (by decide)), fun h => ?_⟩
  have hp : 1 ≤ p ∧ p ≤ 500 := Classical.byContradiction fun z => h (if_neg z)
  refine kwX7_needs_16 hC hE ?_
  simp only [kbX7_needs_16, mX7_needs, kblk, kstp, kent, kpad, kget, kst1, kst2, kc2, cond_false, cond_true, kfv, kfit, kOkf, kputv, kputD, kputG, kcpy, kcat, kRR, kNN, true_and, and_true, if_true, if_false, if_pos, Nat.reduceAdd, Nat.reduceEqDiff, Nat.reduceLeDiff, Nat.reduceLT, reduceIte, Prod.mk.injEq, eq_self, false_and, and_false, reduceCtorEq, Nat.reduceSub, List.reverse_cons, List.reverse_nil, List.nil_append, List.cons_append, Option.toList_some, Option.toList_none, not_true_eq_false, not_false_eq_true]
  refine KW_callS hC (by decide +kernel) kl7_41 (by decide) ((m7_isIn (km (kput D (7, 4, 0) 0 0) G) s 1 100)) rfl rfl (by simp [kOkL, kOk, h7]) (by simp [kOkS]) (Nat.le_of_ble_eq_true rfl) (Nat.le_of_ble_eq_true rfl) (Nat.le_of_ble_eq_true rfl) ?_
  rintro v M' ⟨rfl, rfl⟩
  refine kwX7_needs_23 hC hE ?_
  simp only [kbX7_needs_23, mX7_needs, kblk, kstp, kent, kpad, kget, kst1, kst2, kc2, cond_false, cond_true, kfv, kfit, kOkf, kputv, kputD, kputG, kcpy, kcat, kRR, kNN, true_and, and_true, if_true, if_false, if_pos, Nat.reduceAdd, Nat.reduceEqDiff, Nat.reduceLeDiff, Nat.reduceLT, reduceIte, Prod.mk.injEq, eq_self, false_and, and_false, reduceCtorEq, Nat.reduceSub, List.reverse_cons, List.reverse_nil, List.nil_append, List.cons_append, Option.toList_some, Option.toList_none, not_true_eq_false, not_false_eq_true]
  refine ⟨fun h2 => ?_, fun h2 => bad (fun z => by rw [if_pos z.2] at h2; exact absurd h2 (by decide))⟩
  have hs : 1 ≤ s ∧ s ≤ 100 := Classical.byContradiction fun z => h2 (if_neg z)
  obtain ⟨k, k1, k2, rfl⟩ := in_range1 (n := 100) (by decide) hs
  have c5 : ∀ D', kOff 3 D' (kput D (7, 4, 0) 0 0) → D' (7, 4, 0) 2 = nI (tC σ) := fun D' ho => by
    rw [ho _ (by decide)]; exact ht0.1.2.1
  have outer : ∀ (m i : Nat) (D' : KI → Nat → Int32), i + m = tC σ + 1 → kOff 3 D' (kput D (7, 4, 0) 0 0) → tNeeds σ p k m i = tNeeds σ p k (tC σ + 1) 0 → KW X 34 [some (kR (some (7, 4, 0))), some (kI p), some (kI (nI k)), some (kI (nI i)), none, none] [] (km D' G) 0 0 := by
    intro m
    induction m with
    | zero =>
      intro i D' him ho he
      have hi : i = tC σ + 1 := by omega
      subst hi
      refine kwX7_needs_34 hC hE ?_
      simp only [kbX7_needs_34, mX7_needs, kblk, kstp, kent, kpad, kget, kst1, kst2, kc2, cond_false, cond_true, kfv, kfit, kOkf, kputv, kputD, kputG, kcpy, kcat, kRR, kNN, true_and, and_true, if_true, if_false, if_pos, Nat.reduceAdd, Nat.reduceEqDiff, Nat.reduceLeDiff, Nat.reduceLT, reduceIte, Prod.mk.injEq, eq_self, false_and, and_false, reduceCtorEq, Nat.reduceSub, List.reverse_cons, List.reverse_nil, List.nil_append, List.cons_append, Option.toList_some, Option.toList_none, not_true_eq_false, not_false_eq_true, h7, c5 D' ho]
      refine ⟨fun _ => ?_, fun w => absurd (nI_lt (Nat.lt_succ_self _) (by omega)) w⟩
      refine kwX7_needs_105 hC hE ?_
      simp only [kbX7_needs_105, mX7_needs, kblk, kstp, kent, kpad, kget, kst1, kst2, kc2, cond_false, cond_true, kfv, kfit, kOkf, kputv, kputD, kputG, kcpy, kcat, kRR, kNN, true_and, and_true, if_true, if_false, if_pos, Nat.reduceAdd, Nat.reduceEqDiff, Nat.reduceLeDiff, Nat.reduceLT, reduceIte, Prod.mk.injEq, eq_self, false_and, and_false, reduceCtorEq, Nat.reduceSub, List.reverse_cons, List.reverse_nil, List.nil_append, List.cons_append, Option.toList_some, Option.toList_none, not_true_eq_false, not_false_eq_true]
      exact ⟨Or.inl ⟨k, k1, k2, rfl, hp, by rw [← he]; rfl, mPub_3 ht hm ho⟩, trivial, Nat.le_refl _, Nat.le_refl _⟩
    | succ m ih =>
      intro i D' him ho he
      have hmD : mSt 2 D' σ := mSt_off hm0 (ho _ (by decide)) (fun k => ho _ (by simp))
      have hwi : kWf0 b hf 0 hf (tset σ 39 0 (nI i)) := hw.free (by decide)
      have tail : ∀ (D2 : KI → Nat → Int32) (up : Int32) (v5 : Option KV), kOff 3 D2 (kput D (7, 4, 0) 0 0) → up = tStepsUp k (tset σ 39 0 (nI i)) → KW X 91 [some (kR (some (7, 4, 0))), some (kI p), some (kI (nI k)), some (kI (nI i)), some (kI up), v5] [] (km D2 G) 0 0 := by
        intro D2 up v5 ho2 hup
        replace he : (if p ≤ tStepsUp k (tset σ 39 0 (nI i)) then nI i else tNeeds σ p k m (i + 1)) = tNeeds σ p k (tC σ + 1) 0 := he
        rw [← hup] at he
        refine kwX7_needs_91 hC hE ?_
        simp only [kbX7_needs_91, mX7_needs, kblk, kstp, kent, kpad, kget, kst1, kst2, kc2, cond_false, cond_true, kfv, kfit, kOkf, kputv, kputD, kputG, kcpy, kcat, kRR, kNN, true_and, and_true, if_true, if_false, if_pos, Nat.reduceAdd, Nat.reduceEqDiff, Nat.reduceLeDiff, Nat.reduceLT, reduceIte, Prod.mk.injEq, eq_self, false_and, and_false, reduceCtorEq, Nat.reduceSub, List.reverse_cons, List.reverse_nil, List.nil_append, List.cons_append, Option.toList_some, Option.toList_none, not_true_eq_false, not_false_eq_true]
        refine ⟨fun w => ?_, fun w => ?_⟩
        · rw [if_neg (Int32.not_le.mpr w)] at he
          refine kwX7_needs_99 hC hE ?_
          simp only [kbX7_needs_99, mX7_needs, kblk, kstp, kent, kpad, kget, kst1, kst2, kc2, cond_false, cond_true, kfv, kfit, kOkf, kputv, kputD, kputG, kcpy, kcat, kRR, kNN, true_and, and_true, if_true, if_false, if_pos, Nat.reduceAdd, Nat.reduceEqDiff, Nat.reduceLeDiff, Nat.reduceLT, reduceIte, Prod.mk.injEq, eq_self, false_and, and_false, reduceCtorEq, Nat.reduceSub, List.reverse_cons, List.reverse_nil, List.nil_append, List.cons_append, Option.toList_some, Option.toList_none, not_true_eq_false, not_false_eq_true, nI_1]
          exact KW.le (by simp [kLE]) (ih (i + 1) D2 (by omega) ho2 he)
        · rw [if_pos (Int32.not_lt.mp w)] at he
          refine kwX7_needs_97 hC hE ?_
          simp only [kbX7_needs_97, mX7_needs, kblk, kstp, kent, kpad, kget, kst1, kst2, kc2, cond_false, cond_true, kfv, kfit, kOkf, kputv, kputD, kputG, kcpy, kcat, kRR, kNN, true_and, and_true, if_true, if_false, if_pos, Nat.reduceAdd, Nat.reduceEqDiff, Nat.reduceLeDiff, Nat.reduceLT, reduceIte, Prod.mk.injEq, eq_self, false_and, and_false, reduceCtorEq, Nat.reduceSub, List.reverse_cons, List.reverse_nil, List.nil_append, List.cons_append, Option.toList_some, Option.toList_none, not_true_eq_false, not_false_eq_true]
          exact ⟨Or.inl ⟨k, k1, k2, rfl, hp, by rw [← he], mPub_3 ht hm ho2⟩, trivial, Nat.le_refl _, Nat.le_refl _⟩
      have loop : ∀ (m2 j : Nat) (τ : KT) (D2 : KI → Nat → Int32) (up : Int32), j + m2 = k → up + tStepsUp m2 τ = tStepsUp k (tset σ 39 0 (nI i)) → kWf0 (b + j) hf 0 hf τ → mSt 3 D2 τ → mTop D2 τ → kOff 3 D2 (kput D (7, 4, 0) 0 0) → KW X 67 [some (kR (some (7, 4, 0))), some (kI p), some (kI (nI k)), some (kI (nI i)), some (kI up), some (kI (nI j))] [] (km D2 G) 0 0 := by
        intro m2
        induction m2 with
        | zero =>
          intro j τ D2 up hjm h1 h3 h4 h5 h6
          have hj : j = k := by omega
          subst hj
          have e1 : up = tStepsUp j (tset σ 39 0 (nI i)) := by rw [← h1]; exact (Int32.add_zero _).symm
          refine kwX7_needs_67 hC hE ?_
          simp only [kbX7_needs_67, mX7_needs, kblk, kstp, kent, kpad, kget, kst1, kst2, kc2, cond_false, cond_true, kfv, kfit, kOkf, kputv, kputD, kputG, kcpy, kcat, kRR, kNN, true_and, and_true, if_true, if_false, if_pos, Nat.reduceAdd, Nat.reduceEqDiff, Nat.reduceLeDiff, Nat.reduceLT, reduceIte, Prod.mk.injEq, eq_self, false_and, and_false, reduceCtorEq, Nat.reduceSub, List.reverse_cons, List.reverse_nil, List.nil_append, List.cons_append, Option.toList_some, Option.toList_none, not_true_eq_false, not_false_eq_true]
          exact ⟨fun _ => tail D2 up _ h6 e1, fun w => absurd (nI_le (Nat.le_refl _) (by omega)) w⟩
        | succ m2 ih2 =>
          intro j τ D2 up hjm h1 h3 h4 h5 h6
          refine kwX7_needs_67 hC hE ?_
          simp only [kbX7_needs_67, mX7_needs, kblk, kstp, kent, kpad, kget, kst1, kst2, kc2, cond_false, cond_true, kfv, kfit, kOkf, kputv, kputD, kputG, kcpy, kcat, kRR, kNN, true_and, and_true, if_true, if_false, if_pos, Nat.reduceAdd, Nat.reduceEqDiff, Nat.reduceLeDiff, Nat.reduceLT, reduceIte, Prod.mk.injEq, eq_self, false_and, and_false, reduceCtorEq, Nat.reduceSub, List.reverse_cons, List.reverse_nil, List.nil_append, List.cons_append, Option.toList_some, Option.toList_none, not_true_eq_false, not_false_eq_true]
          refine ⟨fun w => absurd w (nI_ge (by omega) (by omega)), fun _ => ?_⟩
          refine kwX7_needs_73 hC hE ?_
          simp only [kbX7_needs_73, mX7_needs, kblk, kstp, kent, kpad, kget, kst1, kst2, kc2, cond_false, cond_true, kfv, kfit, kOkf, kputv, kputD, kputG, kcpy, kcat, kRR, kNN, true_and, and_true, if_true, if_false, if_pos, Nat.reduceAdd, Nat.reduceEqDiff, Nat.reduceLeDiff, Nat.reduceLT, reduceIte, Prod.mk.injEq, eq_self, false_and, and_false, reduceCtorEq, Nat.reduceSub, List.reverse_cons, List.reverse_nil, List.nil_append, List.cons_append, Option.toList_some, Option.toList_none, not_true_eq_false, not_false_eq_true, h7]
          refine KW_callV hC (by decide +kernel) kl7_131 (by decide) ((m_pass (Or.inr rfl) h5 h4 h3 (by omega))) rfl rfl (Nat.le_of_ble_eq_true rfl) rfl hx3 (by simp [kOkL, kOk, h7, hx, hx3]) (by simp [kOkS, kOk, h7]) (Nat.le_of_ble_eq_true rfl) (Nat.le_of_ble_eq_true rfl) (Nat.le_of_ble_eq_true rfl) ?_
          rintro v M' ⟨rfl, D3, rfl, hm3, ho3⟩
          refine kwX7_needs_82 hC hE ?_
          simp only [kbX7_needs_82, mX7_needs, kblk, kstp, kent, kpad, kget, kst1, kst2, kc2, cond_false, cond_true, kfv, kfit, kOkf, kputv, kputD, kputG, kcpy, kcat, kRR, kNN, true_and, and_true, if_true, if_false, if_pos, Nat.reduceAdd, Nat.reduceEqDiff, Nat.reduceLeDiff, Nat.reduceLT, reduceIte, Prod.mk.injEq, eq_self, false_and, and_false, reduceCtorEq, Nat.reduceSub, List.reverse_cons, List.reverse_nil, List.nil_append, List.cons_append, Option.toList_some, Option.toList_none, not_true_eq_false, not_false_eq_true, nI_1]
          refine ih2 (j + 1) (tStep τ) D3 (up + tStepUp τ) (by omega) ?_ h3.step hm3 (h5.same (Or.inr rfl) ho3).step (ho3.trans h6)
          rw [← h1]
          simp only [tStepsUp]
          rw [Int32.add_assoc]
      refine kwX7_needs_34 hC hE ?_
      simp only [kbX7_needs_34, mX7_needs, kblk, kstp, kent, kpad, kget, kst1, kst2, kc2, cond_false, cond_true, kfv, kfit, kOkf, kputv, kputD, kputG, kcpy, kcat, kRR, kNN, true_and, and_true, if_true, if_false, if_pos, Nat.reduceAdd, Nat.reduceEqDiff, Nat.reduceLeDiff, Nat.reduceLT, reduceIte, Prod.mk.injEq, eq_self, false_and, and_false, reduceCtorEq, Nat.reduceSub, List.reverse_cons, List.reverse_nil, List.nil_append, List.cons_append, Option.toList_some, Option.toList_none, not_true_eq_false, not_false_eq_true, h7, c5 D' ho]
      refine ⟨fun w => absurd w (Int32.not_lt.mpr (nI_le (by omega) (by omega))), fun _ => ?_⟩
      refine kwX7_needs_42 hC hE ?_
      simp only [kbX7_needs_42, mX7_needs, kblk, kstp, kent, kpad, kget, kst1, kst2, kc2, cond_false, cond_true, kfv, kfit, kOkf, kputv, kputD, kputG, kcpy, kcat, kRR, kNN, true_and, and_true, if_true, if_false, if_pos, Nat.reduceAdd, Nat.reduceEqDiff, Nat.reduceLeDiff, Nat.reduceLT, reduceIte, Prod.mk.injEq, eq_self, false_and, and_false, reduceCtorEq, Nat.reduceSub, List.reverse_cons, List.reverse_nil, List.nil_append, List.cons_append, Option.toList_some, Option.toList_none, not_true_eq_false, not_false_eq_true, h7]
      refine KW_callV hC (by decide +kernel) kl7_152 (by decide) ((m_become hmD hw.1 hw.qOK)) rfl rfl (Nat.le_of_ble_eq_true rfl) rfl hx3 (by simp [kOkL, kOk, h7, hx, hx3]) (by simp [kOkS, kOk, h7]) (Nat.le_of_ble_eq_true rfl) (Nat.le_of_ble_eq_true rfl) (Nat.le_of_ble_eq_true rfl) ?_
      rintro v M' ⟨rfl, D1, rfl, hm1, ho1⟩
      refine kwX7_needs_53 hC hE ?_
      simp only [kbX7_needs_53, mX7_needs, kblk, kstp, kent, kpad, kget, kst1, kst2, kc2, cond_false, cond_true, kfv, kfit, kOkf, kputv, kputD, kputG, kcpy, kcat, kRR, kNN, true_and, and_true, if_true, if_false, if_pos, Nat.reduceAdd, Nat.reduceEqDiff, Nat.reduceLeDiff, Nat.reduceLT, reduceIte, Prod.mk.injEq, eq_self, false_and, and_false, reduceCtorEq, Nat.reduceSub, List.reverse_cons, List.reverse_nil, List.nil_append, List.cons_append, Option.toList_some, Option.toList_none, not_true_eq_false, not_false_eq_true, h7, hx3]
      refine loop k 0 (tset σ 39 0 (nI i)) _ 0 (by omega) (Int32.zero_add _) hwi ⟨mSc_put hm1.1 1 (nI i) ?_ ?_ ?_ ?_ ?_ ?_ ?_ ?_ ?_, mArr_free (mArr_sc hm1.2 1 (nI i)) 39 0 (nI i) (by decide)⟩ ?_ (kOff.put.trans (ho1.trans ho))
      · rw [if_neg (by decide)]; exact tZ_ne (by decide)
      · rw [if_pos rfl, tZ_tset, zup_eq]
      · rw [if_neg (by decide)]; exact tZ_ne (by decide)
      · rw [if_neg (by decide)]; rfl
      · rw [if_neg (by decide)]; exact tZ_ne (by decide)
      · rw [if_neg (by decide)]; exact tCold_tset (by decide) (by decide)
      · rw [if_neg (by decide)]; exact tTaken_tset (by decide)
      · rw [if_neg (by decide)]; exact tZ_ne (by decide)
      · rw [if_neg (by decide)]; rfl
      · exact ((ht0.same (P := 3) (Or.inr rfl) (kOff.put.trans (ho1.trans ho)))).congr rfl rfl (fun c => tZ_ne (by decide)) (fun c => tZ_ne (by decide)) (fun c => tZ_ne (by decide)) (tZ_ne (by decide))
  refine kwX7_needs_32 hC hE ?_
  simp only [kbX7_needs_32, mX7_needs, kblk, kstp, kent, kpad, kget, kst1, kst2, kc2, cond_false, cond_true, kfv, kfit, kOkf, kputv, kputD, kputG, kcpy, kcat, kRR, kNN, true_and, and_true, if_true, if_false, if_pos, Nat.reduceAdd, Nat.reduceEqDiff, Nat.reduceLeDiff, Nat.reduceLT, reduceIte, Prod.mk.injEq, eq_self, false_and, and_false, reduceCtorEq, Nat.reduceSub, List.reverse_cons, List.reverse_nil, List.nil_append, List.cons_append, Option.toList_some, Option.toList_none, not_true_eq_false, not_false_eq_true]
  exact outer (tC σ + 1) 0 _ (by omega) kOff.refl rfl
theorem m7_mean (ht : mTop D σ) (hm : mSt 2 D σ) : SpQ mX7_mean 0 0 [kR (some (7, 4, 0))] (km D G) (fun v M' => v = some (kD (tMean σ)) ∧ mPub D G σ 0 M') := by
  refine SpQ_of (own := 7) (ini := false) (by decide +kernel) rfl (by decide) (Nat.le_of_ble_eq_true rfl) ?_
  intro X hC hE hL0
  have h7 := mLive7
  have hx := mLive (P := 2) (Or.inl rfl)
  have ht0 := mTop_thr ht 0
  have hm0 := mSt_7 (Or.inl rfl) hm 0 0
  have q7 : kput D (7, 4, 0) 0 0 (6, 2, 0) 7 = tZ σ 43 0 := hm0.1.2.2.2.2.2.2.2.1
  have q6 : kput D (7, 4, 0) 0 0 (6, 2, 0) 6 = tTaken σ := hm0.1.2.2.2.2.2.2.1
  refine kwX7_mean_0 hC hE ?_
  simp only [kbX7_mean_0, mX7_mean, kblk, kstp, kent, kpad, kget, kst1, kst2, kc2, cond_false, cond_true, kfv, kfit, kOkf, kputv, kputD, kputG, kcpy, kcat, kRR, kNN, true_and, and_true, if_true, if_false, if_pos, Nat.reduceAdd, Nat.reduceEqDiff, Nat.reduceLeDiff, Nat.reduceLT, reduceIte, Prod.mk.injEq, eq_self, false_and, and_false, reduceCtorEq, Nat.reduceSub, List.reverse_cons, List.reverse_nil, List.nil_append, List.cons_append, Option.toList_some, Option.toList_none, not_true_eq_false, not_false_eq_true, h7, hx, q7]
  refine ⟨fun h => ?_, fun h => ?_⟩
  · refine kwX7_mean_19 hC hE ?_
    simp only [kbX7_mean_19, mX7_mean, kblk, kstp, kent, kpad, kget, kst1, kst2, kc2, cond_false, cond_true, kfv, kfit, kOkf, kputv, kputD, kputG, kcpy, kcat, kRR, kNN, true_and, and_true, if_true, if_false, if_pos, Nat.reduceAdd, Nat.reduceEqDiff, Nat.reduceLeDiff, Nat.reduceLT, reduceIte, Prod.mk.injEq, eq_self, false_and, and_false, reduceCtorEq, Nat.reduceSub, List.reverse_cons, List.reverse_nil, List.nil_append, List.cons_append, Option.toList_some, Option.toList_none, not_true_eq_false, not_false_eq_true, h7, hx, q6, q7]
    refine ⟨mean_n64 _ h, ?_⟩
    refine kwX7_mean_36 hC hE ?_
    simp only [kbX7_mean_36, mX7_mean, kblk, kstp, kent, kpad, kget, kst1, kst2, kc2, cond_false, cond_true, kfv, kfit, kOkf, kputv, kputD, kputG, kcpy, kcat, kRR, kNN, true_and, and_true, if_true, if_false, if_pos, Nat.reduceAdd, Nat.reduceEqDiff, Nat.reduceLeDiff, Nat.reduceLT, reduceIte, Prod.mk.injEq, eq_self, false_and, and_false, reduceCtorEq, Nat.reduceSub, List.reverse_cons, List.reverse_nil, List.nil_append, List.cons_append, Option.toList_some, Option.toList_none, not_true_eq_false, not_false_eq_true]
    exact ⟨⟨by unfold tMean; rw [if_neg h], mPub_0 ht hm⟩, trivial, Nat.le_refl _, Nat.le_refl _⟩
  · refine kwX7_mean_15 hC hE ?_
    simp only [kbX7_mean_15, mX7_mean, kblk, kstp, kent, kpad, kget, kst1, kst2, kc2, cond_false, cond_true, kfv, kfit, kOkf, kputv, kputD, kputG, kcpy, kcat, kRR, kNN, true_and, and_true, if_true, if_false, if_pos, Nat.reduceAdd, Nat.reduceEqDiff, Nat.reduceLeDiff, Nat.reduceLT, reduceIte, Prod.mk.injEq, eq_self, false_and, and_false, reduceCtorEq, Nat.reduceSub, List.reverse_cons, List.reverse_nil, List.nil_append, List.cons_append, Option.toList_some, Option.toList_none, not_true_eq_false, not_false_eq_true]
    refine kwX7_mean_36 hC hE ?_
    simp only [kbX7_mean_36, mX7_mean, kblk, kstp, kent, kpad, kget, kst1, kst2, kc2, cond_false, cond_true, kfv, kfit, kOkf, kputv, kputD, kputG, kcpy, kcat, kRR, kNN, true_and, and_true, if_true, if_false, if_pos, Nat.reduceAdd, Nat.reduceEqDiff, Nat.reduceLeDiff, Nat.reduceLT, reduceIte, Prod.mk.injEq, eq_self, false_and, and_false, reduceCtorEq, Nat.reduceSub, List.reverse_cons, List.reverse_nil, List.nil_append, List.cons_append, Option.toList_some, Option.toList_none, not_true_eq_false, not_false_eq_true]
    exact ⟨⟨by unfold tMean; rw [if_pos h], mPub_0 ht hm⟩, trivial, Nat.le_refl _, Nat.le_refl _⟩
end M7D

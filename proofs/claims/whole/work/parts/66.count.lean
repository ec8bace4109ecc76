/-! The reference: counts, and the public questions. -/
theorem le_lit {x : Int32} {a b : Nat} (h : b = a + 1) (hb : b < 2 ^ 31) : x ≤ nI a ↔ x < nI b := by
  rw [Int32.le_iff_toInt_le, Int32.lt_iff_toInt_lt, nI_toInt (by omega), nI_toInt hb]
  omega
section COUNT
variable {D : KI → Nat → Int32} {G : KI → Nat → Int64} {σ : KT}
theorem m9_onRope {n : Nat} (q2 : D (7, 4, 0) 2 = nI (tC σ)) (q8 : D (6, 2, 0) 8 = nI (tS σ).length) : SpQ mX6_onRope 0 0 [kR (some (6, 2, 0))] (km9 n D G) (fun v M' => v = some (kI (tOnRope σ)) ∧ M' = km9 n D G) := by
  refine SpQ_of (own := 6) (ini := false) (by decide +kernel) rfl (by decide) (Nat.le_of_ble_eq_true rfl) ?_
  intro X hC hE hL0
  have hx := mLive (P := 2) (Or.inl rfl)
  have h7 := mLive7
  refine kwX6_onRope_0 hC hE ?_
  simp only [kbX6_onRope_0, mX6_onRope, kblk, kstp, kent, kpad, kget, kst1, kst2, kc2, cond_false, cond_true, kfv, kfit, kOkf, kputv, kputD, kputG, kcpy, kcat, kRR, kNN, true_and, and_true, if_true, if_false, if_pos, Nat.reduceAdd, Nat.reduceEqDiff, Nat.reduceLeDiff, Nat.reduceLT, reduceIte, Prod.mk.injEq, eq_self, false_and, and_false, reduceCtorEq, Nat.reduceSub, List.reverse_cons, List.reverse_nil, List.nil_append, List.cons_append, Option.toList_some, Option.toList_none, not_true_eq_false, not_false_eq_true, hx, h7, q2, q8, s9_6, s9_7, or_true]
  exact ⟨⟨rfl, rfl⟩, trivial, Nat.le_refl _, Nat.le_refl _⟩
theorem m9_people {n : Nat} (hm : mSt 2 D σ) (hb : kB σ) (p : Int32) : SpQ mX6_people 0 0 [kR (some (6, 2, 0)), kI p] (km9 n D G) (fun v M' => v = some (kI (tPeople σ p)) ∧ M' = km9 n D G) := by
  refine SpQ_of (own := 6) (ini := false) (by decide +kernel) rfl (by decide) (Nat.le_of_ble_eq_true rfl) ?_
  intro X hC hE hL0
  have hx := mLive (P := 2) (Or.inl rfl)
  have h17 := mLive8 (P := 2) (k := 17) (Or.inl rfl) (by decide) (by decide)
  have h15 := mLive8 (P := 2) (k := 15) (Or.inl rfl) (by decide) (by decide)
  have n17 : kN8 2 17 = 91 := rfl
  have n15 : kN8 2 15 = 91 := rfl
  have hb1 := hb.2.2.1
  have c7 := hm.1.2.2.2.1
  have loop : ∀ (m i : Nat), i + m = tG σ → KW X 4 [some (kR (some (6, 2, 0))), some (kI p), some (kI (isum (fun g => if tZ σ 12 g = p then tZ σ 10 g else 0) i)), some (kI (nI i))] [] (km9 n D G) 0 0 := by
    intro m
    induction m with
    | zero =>
      intro i him
      have hi : i = tG σ := by omega
      subst hi
      refine kwX6_people_4 hC hE ?_
      simp only [kbX6_people_4, mX6_people, kblk, kstp, kent, kpad, kget, kst1, kst2, kc2, cond_false, cond_true, kfv, kfit, kOkf, kputv, kputD, kputG, kcpy, kcat, kRR, kNN, true_and, and_true, if_true, if_false, if_pos, Nat.reduceAdd, Nat.reduceEqDiff, Nat.reduceLeDiff, Nat.reduceLT, reduceIte, Prod.mk.injEq, eq_self, false_and, and_false, reduceCtorEq, Nat.reduceSub, List.reverse_cons, List.reverse_nil, List.nil_append, List.cons_append, Option.toList_some, Option.toList_none, not_true_eq_false, not_false_eq_true, hx, c7, s9_6, or_true]
      refine ⟨fun _ => ?_, fun h => absurd (nI_le (Nat.le_refl _) (by omega)) h⟩
      refine kwX6_people_41 hC hE ?_
      simp only [kbX6_people_41, mX6_people, kblk, kstp, kent, kpad, kget, kst1, kst2, kc2, cond_false, cond_true, kfv, kfit, kOkf, kputv, kputD, kputG, kcpy, kcat, kRR, kNN, true_and, and_true, if_true, if_false, if_pos, Nat.reduceAdd, Nat.reduceEqDiff, Nat.reduceLeDiff, Nat.reduceLT, reduceIte, Prod.mk.injEq, eq_self, false_and, and_false, reduceCtorEq, Nat.reduceSub, List.reverse_cons, List.reverse_nil, List.nil_append, List.cons_append, Option.toList_some, Option.toList_none, not_true_eq_false, not_false_eq_true]
      exact ⟨⟨rfl, rfl⟩, trivial, Nat.le_refl _, Nat.le_refl _⟩
    | succ m ih =>
      intro i him
      have hi : i < tG σ := by omega
      have hst := (hm.2.2.2.2.2.2.2 i hi).2.2.1
      have hsz := (hm.2.2.2.2.2.2.2 i hi).1
      have fin : ∀ z : Int32, z = (if tZ σ 12 i = p then tZ σ 10 i else 0) → KW X 33 [some (kR (some (6, 2, 0))), some (kI p), some (kI (isum (fun g => if tZ σ 12 g = p then tZ σ 10 g else 0) i)), some (kI (nI i))] [kI z, kI (isum (fun g => if tZ σ 12 g = p then tZ σ 10 g else 0) i)] (km9 n D G) 0 0 := by
        intro z hz
        subst hz
        refine kwX6_people_33 hC hE ?_
        simp only [kbX6_people_33, mX6_people, kblk, kstp, kent, kpad, kget, kst1, kst2, kc2, cond_false, cond_true, kfv, kfit, kOkf, kputv, kputD, kputG, kcpy, kcat, kRR, kNN, true_and, and_true, if_true, if_false, if_pos, Nat.reduceAdd, Nat.reduceEqDiff, Nat.reduceLeDiff, Nat.reduceLT, reduceIte, Prod.mk.injEq, eq_self, false_and, and_false, reduceCtorEq, Nat.reduceSub, List.reverse_cons, List.reverse_nil, List.nil_append, List.cons_append, Option.toList_some, Option.toList_none, not_true_eq_false, not_false_eq_true, nI_1]
        exact ih (i + 1) (by omega)
      refine kwX6_people_4 hC hE ?_
      simp only [kbX6_people_4, mX6_people, kblk, kstp, kent, kpad, kget, kst1, kst2, kc2, cond_false, cond_true, kfv, kfit, kOkf, kputv, kputD, kputG, kcpy, kcat, kRR, kNN, true_and, and_true, if_true, if_false, if_pos, Nat.reduceAdd, Nat.reduceEqDiff, Nat.reduceLeDiff, Nat.reduceLT, reduceIte, Prod.mk.injEq, eq_self, false_and, and_false, reduceCtorEq, Nat.reduceSub, List.reverse_cons, List.reverse_nil, List.nil_append, List.cons_append, Option.toList_some, Option.toList_none, not_true_eq_false, not_false_eq_true, hx, c7, s9_6, or_true]
      refine ⟨fun h => absurd h (nI_ge hi (by omega)), fun _ => ?_⟩
      refine kwX6_people_12 hC hE ?_
      simp only [kbX6_people_12, mX6_people, kblk, kstp, kent, kpad, kget, kst1, kst2, kc2, cond_false, cond_true, kfv, kfit, kOkf, kputv, kputD, kputG, kcpy, kcat, kRR, kNN, true_and, and_true, if_true, if_false, if_pos, Nat.reduceAdd, Nat.reduceEqDiff, Nat.reduceLeDiff, Nat.reduceLT, reduceIte, Prod.mk.injEq, eq_self, false_and, and_false, reduceCtorEq, Nat.reduceSub, List.reverse_cons, List.reverse_nil, List.nil_append, List.cons_append, Option.toList_some, Option.toList_none, not_true_eq_false, not_false_eq_true, hx, h17, n17, nI_clamp (show i < 2 ^ 31 by omega), hst, s9_6, s9_2, or_true]
      refine ⟨vp_in_nI (show i < 91 by omega) (by omega), fun h => ?_, fun h => ?_⟩
      · refine kwX6_people_32 hC hE ?_
        simp only [kbX6_people_32, mX6_people, kblk, kstp, kent, kpad, kget, kst1, kst2, kc2, cond_false, cond_true, kfv, kfit, kOkf, kputv, kputD, kputG, kcpy, kcat, kRR, kNN, true_and, and_true, if_true, if_false, if_pos, Nat.reduceAdd, Nat.reduceEqDiff, Nat.reduceLeDiff, Nat.reduceLT, reduceIte, Prod.mk.injEq, eq_self, false_and, and_false, reduceCtorEq, Nat.reduceSub, List.reverse_cons, List.reverse_nil, List.nil_append, List.cons_append, Option.toList_some, Option.toList_none, not_true_eq_false, not_false_eq_true]
        exact fin 0 (if_neg h).symm
      · refine kwX6_people_23 hC hE ?_
        simp only [kbX6_people_23, mX6_people, kblk, kstp, kent, kpad, kget, kst1, kst2, kc2, cond_false, cond_true, kfv, kfit, kOkf, kputv, kputD, kputG, kcpy, kcat, kRR, kNN, true_and, and_true, if_true, if_false, if_pos, Nat.reduceAdd, Nat.reduceEqDiff, Nat.reduceLeDiff, Nat.reduceLT, reduceIte, Prod.mk.injEq, eq_self, false_and, and_false, reduceCtorEq, Nat.reduceSub, List.reverse_cons, List.reverse_nil, List.nil_append, List.cons_append, Option.toList_some, Option.toList_none, not_true_eq_false, not_false_eq_true, hx, h15, n15, nI_clamp (show i < 2 ^ 31 by omega), hsz, s9_6, s9_2, or_true]
        exact ⟨vp_in_nI (show i < 91 by omega) (by omega), fin _ (if_pos h).symm⟩
  refine kwX6_people_0 hC hE ?_
  simp only [kbX6_people_0, mX6_people, kblk, kstp, kent, kpad, kget, kst1, kst2, kc2, cond_false, cond_true, kfv, kfit, kOkf, kputv, kputD, kputG, kcpy, kcat, kRR, kNN, true_and, and_true, if_true, if_false, if_pos, Nat.reduceAdd, Nat.reduceEqDiff, Nat.reduceLeDiff, Nat.reduceLT, reduceIte, Prod.mk.injEq, eq_self, false_and, and_false, reduceCtorEq, Nat.reduceSub, List.reverse_cons, List.reverse_nil, List.nil_append, List.cons_append, Option.toList_some, Option.toList_none, not_true_eq_false, not_false_eq_true]
  exact loop (tG σ) 0 (by omega)
def filled (σ : KT) (D : KI → Nat → Int32) (G : KI → Nat → Int64) (k : Nat) (D' : KI → Nat → Int32) (G' : KI → Nat → Int64) : Prop := (∀ i, i ≠ (8, 9, 0) → D' i = D i) ∧ (∀ i, i ≠ (8, 9, 0) → G' i = G i) ∧ ∀ j, j < k → D' (8, 9, 0) j = tFact σ j
theorem filled.put {k : Nat} {D' : KI → Nat → Int32} {G' : KI → Nat → Int64} (h : filled σ D G k D' G') {v : Int32} (hv : v = tFact σ k) : filled σ D G (k + 1) (kput D' (8, 9, 0) k v) G' := by
  obtain ⟨a, b, c⟩ := h
  refine ⟨fun i hi => (offp9 i hi).trans (a i hi), b, fun j hj => ?_⟩
  by_cases hjk : j = k
  · subst hjk; simp [kput, hv]
  · have := c j (by omega)
    simp [kput, hjk, this]
theorem filled.mSt {k : Nat} {D' : KI → Nat → Int32} {G' : KI → Nat → Int64} (h : filled σ D G k D' G') (hm : mSt 2 D σ) : mSt 2 D' σ := mSt_off hm (h.1 _ (by simp)) (fun k => h.1 _ (by simp))
theorem m7_counted (ht : mTop D σ) (hm : mSt 2 D σ) (hb : kB σ) {j : Nat} (hj : j < 13) : SpQ mX7_counted 1 13 [kR (some (7, 4, 0)), kI (nI j)] (km D G) (fun v M' => v = some (kI (tFact σ j)) ∧ KSub (km D G) M') := by
  refine SpQ_of (own := 7) (ini := false) (by decide +kernel) rfl (by decide) (Nat.le_of_ble_eq_true rfl) ?_
  intro X hC hE hL0
  have h7 := mLive7
  have hx := mLive (P := 2) (Or.inl rfl)
  have hcj := nI_clamp (show j < 2 ^ 31 by omega)
  have c91 : ∀ (D' : KI → Nat → Int32) (G' : KI → Nat → Int64), filled σ D G 8 D' G' → KW X 91 [some (kR (some (7, 4, 0))), some (kI (nI j)), none] [kI 3, kR (some (6, 2, 0)), kI 8, kR (some (8, 9, 0)), kR (some (8, 9, 0))] (km9 13 D' G') 1 13 := by
    intro D' G' hf
    have hm' := hf.mSt hm
    refine KW_callV hC (by decide +kernel) kl7_137 (by decide) ((m9_people (n := 13) hm' hb 3)) rfl rfl (Nat.le_of_ble_eq_true rfl) rfl (Or.inr hx) (by simp [kOkL, kOk, h7]) (by simp [kOkS, kOk]) (Nat.le_of_ble_eq_true rfl) (Nat.le_of_ble_eq_true rfl) (Nat.le_of_ble_eq_true rfl) ?_
    rintro v M' ⟨rfl, rfl⟩
    have p4 : D' (6, 2, 0) 4 = tZ σ 42 0 := hm'.1.2.2.2.2.1
    have p2 : D' (6, 2, 0) 2 = tZ σ 40 0 := hm'.1.2.2.1
    have p5 : D' (6, 2, 0) 5 = tCold σ := hm'.1.2.2.2.2.2.1
    have p1 : D' (7, 4, 0) 1 = tZ σ 38 0 := by rw [hf.1 _ (by simp)]; exact ht.1.1
    refine kwX7_counted_94 hC hE ?_
    simp only [kbX7_counted_94, mX7_counted, kblk, kstp, kent, kpad, kget, kst1, kst2, kc2, cond_false, cond_true, kfv, kfit, kOkf, kputv, kputD, kputG, kcpy, kcat, kRR, kNN, true_and, and_true, if_true, if_false, if_pos, Nat.reduceAdd, Nat.reduceEqDiff, Nat.reduceLeDiff, Nat.reduceLT, reduceIte, Prod.mk.injEq, eq_self, false_and, and_false, reduceCtorEq, Nat.reduceSub, List.reverse_cons, List.reverse_nil, List.nil_append, List.cons_append, Option.toList_some, Option.toList_none, not_true_eq_false, not_false_eq_true, h7, hx, p4, p2, p5, p1, hcj, knew, s9_2, s9_4, s9_6, s9_7, s9_9, k9_2, k9_4, k9_6, k9_7, or_true, true_or, cl0, cl1, cl2, cl3, cl4, cl5, cl6, cl7, cl8, cl9, cl10, cl11, cl12, cl13]
    have hF := ((((hf.put (v := tPeople σ 3) rfl).put (v := tZ σ 42 0) rfl).put (v := tZ σ 40 0) rfl).put (v := tCold σ) rfl).put (v := tZ σ 38 0) rfl
    refine ⟨vp_in_nI (show 8 < 13 by omega) (by omega), vp_in_nI (show 9 < 13 by omega) (by omega), vp_in_nI (show 10 < 13 by omega) (by omega), vp_in_nI (show 11 < 13 by omega) (by omega), vp_in_nI (show 12 < 13 by omega) (by omega), vp_in_nI (show j < 13 by omega) (by omega), ⟨?_, ksub9 (n := 13) hF.1 hF.2.1⟩, trivial, by decide, by decide⟩
    exact congrArg (fun x => some (kI x)) (hF.2.2 j hj)
  have c79 : ∀ (D' : KI → Nat → Int32) (G' : KI → Nat → Int64), filled σ D G 7 D' G' → KW X 79 [some (kR (some (7, 4, 0))), some (kI (nI j)), none] [kI 2, kR (some (6, 2, 0)), kI 7, kR (some (8, 9, 0)), kR (some (8, 9, 0))] (km9 13 D' G') 1 13 := by
    intro D' G' hf
    have hm' := hf.mSt hm
    refine KW_callV hC (by decide +kernel) kl7_137 (by decide) ((m9_people (n := 13) hm' hb 2)) rfl rfl (Nat.le_of_ble_eq_true rfl) rfl (Or.inr hx) (by simp [kOkL, kOk, h7]) (by simp [kOkS, kOk]) (Nat.le_of_ble_eq_true rfl) (Nat.le_of_ble_eq_true rfl) (Nat.le_of_ble_eq_true rfl) ?_
    rintro v M' ⟨rfl, rfl⟩
    refine kwX7_counted_82 hC hE ?_
    simp only [kbX7_counted_82, mX7_counted, kblk, kstp, kent, kpad, kget, kst1, kst2, kc2, cond_false, cond_true, kfv, kfit, kOkf, kputv, kputD, kputG, kcpy, kcat, kRR, kNN, true_and, and_true, if_true, if_false, if_pos, Nat.reduceAdd, Nat.reduceEqDiff, Nat.reduceLeDiff, Nat.reduceLT, reduceIte, Prod.mk.injEq, eq_self, false_and, and_false, reduceCtorEq, Nat.reduceSub, List.reverse_cons, List.reverse_nil, List.nil_append, List.cons_append, Option.toList_some, Option.toList_none, not_true_eq_false, not_false_eq_true, h7, hx, knew, s9_2, s9_4, s9_6, s9_7, s9_9, k9_2, k9_4, k9_6, k9_7, or_true, true_or, cl0, cl1, cl2, cl3, cl4, cl5, cl6, cl7, cl8, cl9, cl10, cl11, cl12, cl13]
    exact ⟨vp_in_nI (show 7 < 13 by omega) (by omega), c91 _ _ (hf.put (v := tPeople σ 2) rfl)⟩
  have c67 : ∀ (D' : KI → Nat → Int32) (G' : KI → Nat → Int64), filled σ D G 6 D' G' → KW X 67 [some (kR (some (7, 4, 0))), some (kI (nI j)), none] [kI 1, kR (some (6, 2, 0)), kI 6, kR (some (8, 9, 0)), kR (some (8, 9, 0))] (km9 13 D' G') 1 13 := by
    intro D' G' hf
    have hm' := hf.mSt hm
    refine KW_callV hC (by decide +kernel) kl7_137 (by decide) ((m9_people (n := 13) hm' hb 1)) rfl rfl (Nat.le_of_ble_eq_true rfl) rfl (Or.inr hx) (by simp [kOkL, kOk, h7]) (by simp [kOkS, kOk]) (Nat.le_of_ble_eq_true rfl) (Nat.le_of_ble_eq_true rfl) (Nat.le_of_ble_eq_true rfl) ?_
    rintro v M' ⟨rfl, rfl⟩
    refine kwX7_counted_70 hC hE ?_
    simp only [kbX7_counted_70, mX7_counted, kblk, kstp, kent, kpad, kget, kst1, kst2, kc2, cond_false, cond_true, kfv, kfit, kOkf, kputv, kputD, kputG, kcpy, kcat, kRR, kNN, true_and, and_true, if_true, if_false, if_pos, Nat.reduceAdd, Nat.reduceEqDiff, Nat.reduceLeDiff, Nat.reduceLT, reduceIte, Prod.mk.injEq, eq_self, false_and, and_false, reduceCtorEq, Nat.reduceSub, List.reverse_cons, List.reverse_nil, List.nil_append, List.cons_append, Option.toList_some, Option.toList_none, not_true_eq_false, not_false_eq_true, h7, hx, knew, s9_2, s9_4, s9_6, s9_7, s9_9, k9_2, k9_4, k9_6, k9_7, or_true, true_or, cl0, cl1, cl2, cl3, cl4, cl5, cl6, cl7, cl8, cl9, cl10, cl11, cl12, cl13]
    exact ⟨vp_in_nI (show 6 < 13 by omega) (by omega), c79 _ _ (hf.put (v := tPeople σ 1) rfl)⟩
  have c55 : ∀ (D' : KI → Nat → Int32) (G' : KI → Nat → Int64), filled σ D G 5 D' G' → KW X 55 [some (kR (some (7, 4, 0))), some (kI (nI j)), none] [kI 0, kR (some (6, 2, 0)), kI 5, kR (some (8, 9, 0)), kR (some (8, 9, 0))] (km9 13 D' G') 1 13 := by
    intro D' G' hf
    have hm' := hf.mSt hm
    refine KW_callV hC (by decide +kernel) kl7_137 (by decide) ((m9_people (n := 13) hm' hb 0)) rfl rfl (Nat.le_of_ble_eq_true rfl) rfl (Or.inr hx) (by simp [kOkL, kOk, h7]) (by simp [kOkS, kOk]) (Nat.le_of_ble_eq_true rfl) (Nat.le_of_ble_eq_true rfl) (Nat.le_of_ble_eq_true rfl) ?_
    rintro v M' ⟨rfl, rfl⟩
    refine kwX7_counted_58 hC hE ?_
    simp only [kbX7_counted_58, mX7_counted, kblk, kstp, kent, kpad, kget, kst1, kst2, kc2, cond_false, cond_true, kfv, kfit, kOkf, kputv, kputD, kputG, kcpy, kcat, kRR, kNN, true_and, and_true, if_true, if_false, if_pos, Nat.reduceAdd, Nat.reduceEqDiff, Nat.reduceLeDiff, Nat.reduceLT, reduceIte, Prod.mk.injEq, eq_self, false_and, and_false, reduceCtorEq, Nat.reduceSub, List.reverse_cons, List.reverse_nil, List.nil_append, List.cons_append, Option.toList_some, Option.toList_none, not_true_eq_false, not_false_eq_true, h7, hx, knew, s9_2, s9_4, s9_6, s9_7, s9_9, k9_2, k9_4, k9_6, k9_7, or_true, true_or, cl0, cl1, cl2, cl3, cl4, cl5, cl6, cl7, cl8, cl9, cl10, cl11, cl12, cl13]
    exact ⟨vp_in_nI (show 5 < 13 by omega) (by omega), c67 _ _ (hf.put (v := tPeople σ 0) rfl)⟩
  have c27 : ∀ (D' : KI → Nat → Int32) (G' : KI → Nat → Int64), filled σ D G 2 D' G' → KW X 27 [some (kR (some (7, 4, 0))), some (kI (nI j)), none] [kR (some (6, 2, 0)), kI 2, kR (some (8, 9, 0)), kR (some (8, 9, 0))] (km9 13 D' G') 1 13 := by
    intro D' G' hf
    have hm' := hf.mSt hm
    have p2 : D' (7, 4, 0) 2 = nI (tC σ) := by rw [hf.1 _ (by simp)]; exact ht.1.2.1
    have p3 : D' (7, 4, 0) 3 = nI (tL σ) := by rw [hf.1 _ (by simp)]; exact ht.1.2.2
    have p6 : D' (6, 2, 0) 3 = nI (tG σ) := hm'.1.2.2.2.1
    refine KW_callV hC (by decide +kernel) kl7_52 (by decide) ((m9_onRope (n := 13) p2 hm'.1.2.2.2.2.2.2.2.2)) rfl rfl (Nat.le_of_ble_eq_true rfl) rfl (Or.inr hx) (by simp [kOkL, kOk, h7]) (by simp [kOkS, kOk]) (Nat.le_of_ble_eq_true rfl) (Nat.le_of_ble_eq_true rfl) (Nat.le_of_ble_eq_true rfl) ?_
    rintro v M' ⟨rfl, rfl⟩
    refine kwX7_counted_30 hC hE ?_
    simp only [kbX7_counted_30, mX7_counted, kblk, kstp, kent, kpad, kget, kst1, kst2, kc2, cond_false, cond_true, kfv, kfit, kOkf, kputv, kputD, kputG, kcpy, kcat, kRR, kNN, true_and, and_true, if_true, if_false, if_pos, Nat.reduceAdd, Nat.reduceEqDiff, Nat.reduceLeDiff, Nat.reduceLT, reduceIte, Prod.mk.injEq, eq_self, false_and, and_false, reduceCtorEq, Nat.reduceSub, List.reverse_cons, List.reverse_nil, List.nil_append, List.cons_append, Option.toList_some, Option.toList_none, not_true_eq_false, not_false_eq_true, h7, hx, p3, p6, knew, s9_2, s9_4, s9_6, s9_7, s9_9, k9_2, k9_4, k9_6, k9_7, or_true, true_or, cl0, cl1, cl2, cl3, cl4, cl5, cl6, cl7, cl8, cl9, cl10, cl11, cl12, cl13]
    refine ⟨vp_in_nI (show 2 < 13 by omega) (by omega), vp_in_nI (show 3 < 13 by omega) (by omega), vp_in_nI (show 4 < 13 by omega) (by omega), ?_⟩
    exact c55 _ _ (((hf.put (v := tOnRope σ) rfl).put (v := nI (tL σ)) rfl).put (v := nI (tG σ)) rfl)
  have q2 : D (7, 4, 0) 2 = nI (tC σ) := ht.1.2.1
  have q0 : D (6, 2, 0) 0 = tZ σ 41 0 := hm.1.1
  refine kwX7_counted_0 hC hE ?_
  simp only [kbX7_counted_0, mX7_counted, kblk, kstp, kent, kpad, kget, kst1, kst2, kc2, cond_false, cond_true, kfv, kfit, kOkf, kputv, kputD, kputG, kcpy, kcat, kRR, kNN, true_and, and_true, if_true, if_false, if_pos, Nat.reduceAdd, Nat.reduceEqDiff, Nat.reduceLeDiff, Nat.reduceLT, reduceIte, Prod.mk.injEq, eq_self, false_and, and_false, reduceCtorEq, Nat.reduceSub, List.reverse_cons, List.reverse_nil, List.nil_append, List.cons_append, Option.toList_some, Option.toList_none, not_true_eq_false, not_false_eq_true, h7, kroom]
  refine ⟨(8, 9, 0), rfl, no9, by simp [kOkL, kOk, h7], by simp [kOkS], by decide, by decide, by decide, ?_⟩
  simp only [kblk, kstp, kent, kpad, kget, kst1, kst2, kc2, cond_false, cond_true, kfv, kfit, kOkf, kputv, kputD, kputG, kcpy, kcat, kRR, kNN, true_and, and_true, if_true, if_false, if_pos, Nat.reduceAdd, Nat.reduceEqDiff, Nat.reduceLeDiff, Nat.reduceLT, reduceIte, Prod.mk.injEq, eq_self, false_and, and_false, reduceCtorEq, Nat.reduceSub, List.reverse_cons, List.reverse_nil, List.nil_append, List.cons_append, Option.toList_some, Option.toList_none, not_true_eq_false, not_false_eq_true, kblk, kstp, h7, hx, q0, q2, knew, s9_2, s9_4, s9_6, s9_7, s9_9, k9_2, k9_4, k9_6, k9_7, or_true, true_or, cl0, cl1, cl2, cl3, cl4, cl5, cl6, cl7, cl8, cl9, cl10, cl11, cl12, cl13]
  have h0 : filled σ D G 0 (kset D (8, 9, 0) (fun _ => 0)) (kset G (8, 9, 0) (fun _ => 0)) := ⟨fun i hi => off9 i hi, fun i hi => off9 i hi, fun j hj => absurd hj (by omega)⟩
  refine ⟨vp_in_nI (show 0 < 13 by omega) (by omega), vp_in_nI (show 1 < 13 by omega) (by omega), ?_⟩
  exact c27 _ _ ((h0.put (v := tZ σ 41 0) rfl).put (v := nI (tC σ)) rfl)
theorem m7_count (ht : mTop D σ) (hm : mSt 2 D σ) (hb : kB σ) (n : Int32) : SpQ mX7_count 1 13 [kR (some (7, 4, 0)), kI n] (km D G) (fun v M' => (∃ i, i < 13 ∧ n = nI i ∧ v = some (kI (tFact σ i)) ∧ mPub D G σ 0 M') ∨ (¬ (0 ≤ n ∧ n < 13) ∧ v = some (kI 0) ∧ mPub D G σ 1 M')) := by
  refine SpQ_of (own := 7) (ini := false) (by decide +kernel) rfl (by decide) (Nat.le_of_ble_eq_true rfl) ?_
  intro X hC hE hL0
  have h7 := mLive7
  have hx := mLive (P := 2) (Or.inl rfl)
  have ht0 := mTop_thr ht 0
  have hm0 := mSt_7 (Or.inl rfl) hm 0 0
  refine kwX7_count_0 hC hE ?_
  simp only [kbX7_count_0, mX7_count, kblk, kstp, kent, kpad, kget, kst1, kst2, kc2, cond_false, cond_true, kfv, kfit, kOkf, kputv, kputD, kputG, kcpy, kcat, kRR, kNN, true_and, and_true, if_true, if_false, if_pos, Nat.reduceAdd, Nat.reduceEqDiff, Nat.reduceLeDiff, Nat.reduceLT, reduceIte, Prod.mk.injEq, eq_self, false_and, and_false, reduceCtorEq, Nat.reduceSub, List.reverse_cons, List.reverse_nil, List.nil_append, List.cons_append, Option.toList_some, Option.toList_none, not_true_eq_false, not_false_eq_true, h7]
  refine KW_callS hC (by decide +kernel) kl7_41 (by decide) ((m7_isIn (km (kput D (7, 4, 0) 0 0) G) n 0 12)) rfl rfl (by simp [kOkL, kOk, h7]) (by simp [kOkS]) (Nat.le_of_ble_eq_true rfl) (Nat.le_of_ble_eq_true rfl) (Nat.le_of_ble_eq_true rfl) ?_
  rintro v M' ⟨rfl, rfl⟩
  refine kwX7_count_12 hC hE ?_
  simp only [kbX7_count_12, mX7_count, kblk, kstp, kent, kpad, kget, kst1, kst2, kc2, cond_false, cond_true, kfv, kfit, kOkf, kputv, kputD, kputG, kcpy, kcat, kRR, kNN, true_and, and_true, if_true, if_false, if_pos, Nat.reduceAdd, Nat.reduceEqDiff, Nat.reduceLeDiff, Nat.reduceLT, reduceIte, Prod.mk.injEq, eq_self, false_and, and_false, reduceCtorEq, Nat.reduceSub, List.reverse_cons, List.reverse_nil, List.nil_append, List.cons_append, Option.toList_some, Option.toList_none, not_true_eq_false, not_false_eq_true]
  refine ⟨fun h => ?_, fun h => ?_⟩
  · have hn : ¬ (0 ≤ n ∧ n < 13) := fun z => by rw [if_pos ⟨z.1, (le_lit (a := 12) (b := 13) rfl (by decide)).mpr z.2⟩] at h; exact absurd h (by decide)
    refine kwX7_count_23 hC hE ?_
    simp only [kbX7_count_23, mX7_count, kblk, kstp, kent, kpad, kget, kst1, kst2, kc2, cond_false, cond_true, kfv, kfit, kOkf, kputv, kputD, kputG, kcpy, kcat, kRR, kNN, true_and, and_true, if_true, if_false, if_pos, Nat.reduceAdd, Nat.reduceEqDiff, Nat.reduceLeDiff, Nat.reduceLT, reduceIte, Prod.mk.injEq, eq_self, false_and, and_false, reduceCtorEq, Nat.reduceSub, List.reverse_cons, List.reverse_nil, List.nil_append, List.cons_append, Option.toList_some, Option.toList_none, not_true_eq_false, not_false_eq_true]
    refine KW_callV hC (by decide +kernel) kl7_48 (by decide) ((m7_no 1)) rfl rfl (Nat.le_of_ble_eq_true rfl) rfl h7 (by simp [kOkL, kOk, h7]) (by simp [kOkS]) (Nat.le_of_ble_eq_true rfl) (Nat.le_of_ble_eq_true rfl) (Nat.le_of_ble_eq_true rfl) ?_
    rintro v M' ⟨rfl, rfl⟩
    refine kwX7_count_28 hC hE ?_
    simp only [kbX7_count_28, mX7_count, kblk, kstp, kent, kpad, kget, kst1, kst2, kc2, cond_false, cond_true, kfv, kfit, kOkf, kputv, kputD, kputG, kcpy, kcat, kRR, kNN, true_and, and_true, if_true, if_false, if_pos, Nat.reduceAdd, Nat.reduceEqDiff, Nat.reduceLeDiff, Nat.reduceLT, reduceIte, Prod.mk.injEq, eq_self, false_and, and_false, reduceCtorEq, Nat.reduceSub, List.reverse_cons, List.reverse_nil, List.nil_append, List.cons_append, Option.toList_some, Option.toList_none, not_true_eq_false, not_false_eq_true]
    exact ⟨Or.inr ⟨hn, rfl, mPub_no ht hm 1⟩, trivial, by decide, by decide⟩
  · have hn0 : 0 ≤ n ∧ n ≤ 12 := Classical.byContradiction fun z => h (if_neg z)
    obtain ⟨i, hi, rfl⟩ := in_range (n := 13) (by decide) ⟨hn0.1, (le_lit (a := 12) (b := 13) rfl (by decide)).mp hn0.2⟩
    refine kwX7_count_15 hC hE ?_
    simp only [kbX7_count_15, mX7_count, kblk, kstp, kent, kpad, kget, kst1, kst2, kc2, cond_false, cond_true, kfv, kfit, kOkf, kputv, kputD, kputG, kcpy, kcat, kRR, kNN, true_and, and_true, if_true, if_false, if_pos, Nat.reduceAdd, Nat.reduceEqDiff, Nat.reduceLeDiff, Nat.reduceLT, reduceIte, Prod.mk.injEq, eq_self, false_and, and_false, reduceCtorEq, Nat.reduceSub, List.reverse_cons, List.reverse_nil, List.nil_append, List.cons_append, Option.toList_some, Option.toList_none, not_true_eq_false, not_false_eq_true]
    refine KW_callV hC (by decide +kernel) kl7_149 (by decide) ((m7_counted ht0 hm0 hb hi)) rfl rfl (Nat.le_of_ble_eq_true rfl) rfl h7 (by simp [kOkL, kOk, h7]) (by simp [kOkS]) (Nat.le_of_ble_eq_true rfl) (Nat.le_of_ble_eq_true rfl) (Nat.le_of_ble_eq_true rfl) ?_
    rintro v M' ⟨rfl, hsub⟩
    refine KW.sub hsub (fun i hi => by rw [hL0] at hi; exact hi) ?_
    refine kwX7_count_20 hC hE ?_
    simp only [kbX7_count_20, mX7_count, kblk, kstp, kent, kpad, kget, kst1, kst2, kc2, cond_false, cond_true, kfv, kfit, kOkf, kputv, kputD, kputG, kcpy, kcat, kRR, kNN, true_and, and_true, if_true, if_false, if_pos, Nat.reduceAdd, Nat.reduceEqDiff, Nat.reduceLeDiff, Nat.reduceLT, reduceIte, Prod.mk.injEq, eq_self, false_and, and_false, reduceCtorEq, Nat.reduceSub, List.reverse_cons, List.reverse_nil, List.nil_append, List.cons_append, Option.toList_some, Option.toList_none, not_true_eq_false, not_false_eq_true]
    refine kwX7_count_28 hC hE ?_
    simp only [kbX7_count_28, mX7_count, kblk, kstp, kent, kpad, kget, kst1, kst2, kc2, cond_false, cond_true, kfv, kfit, kOkf, kputv, kputD, kputG, kcpy, kcat, kRR, kNN, true_and, and_true, if_true, if_false, if_pos, Nat.reduceAdd, Nat.reduceEqDiff, Nat.reduceLeDiff, Nat.reduceLT, reduceIte, Prod.mk.injEq, eq_self, false_and, and_false, reduceCtorEq, Nat.reduceSub, List.reverse_cons, List.reverse_nil, List.nil_append, List.cons_append, Option.toList_some, Option.toList_none, not_true_eq_false, not_false_eq_true]
    exact ⟨Or.inl ⟨i, hi, rfl, rfl, mPub_0 ht hm⟩, trivial, by decide, by decide⟩
theorem m7_group (ht : mTop D σ) (hm : mSt 2 D σ) {b hf : Nat} (hw : kWf0 b hf 0 hf σ) (c u : Int32) : SpQ mX7_group 1 8 [kR (some (7, 4, 0)), kI c, kI u] (km D G) (fun v M' => (∃ i j, i < tG σ ∧ j < 8 ∧ c = nI i ∧ u = nI j ∧ v = some (kI (tZ σ (10 + j) i)) ∧ mPub D G σ 0 M') ∨ (¬ ((0 ≤ c ∧ c < nI (tG σ)) ∧ 0 ≤ u ∧ u < 8) ∧ v = some (kI 0) ∧ mPub D G σ 1 M')) := by
  refine SpQ_of (own := 7) (ini := false) (by decide +kernel) rfl (by decide) (Nat.le_of_ble_eq_true rfl) ?_
  intro X hC hE hL0
  have h7 := mLive7
  have hx := mLive (P := 2) (Or.inl rfl)
  have ht0 := mTop_thr ht 0
  have hm0 := mSt_7 (Or.inl rfl) hm 0 0
  obtain ⟨bC, hL, hG91, bS, bQ⟩ := hw.1.1
  have bad : ¬ ((0 ≤ c ∧ c < nI (tG σ)) ∧ 0 ≤ u ∧ u < 8) → KW X 32 [some (kR (some (7, 4, 0))), some (kI c), some (kI u)] [] (km (kput D (7, 4, 0) 0 0) G) 0 0 := by
    intro hn
    refine kwX7_group_32 hC hE ?_
    simp only [kbX7_group_32, mX7_group, kblk, kstp, kent, kpad, kget, kst1, kst2, kc2, cond_false, cond_true, kfv, kfit, kOkf, kputv, kputD, kputG, kcpy, kcat, kRR, kNN, true_and, and_true, if_true, if_false, if_pos, Nat.reduceAdd, Nat.reduceEqDiff, Nat.reduceLeDiff, Nat.reduceLT, reduceIte, Prod.mk.injEq, eq_self, false_and, and_false, reduceCtorEq, Nat.reduceSub, List.reverse_cons, List.reverse_nil, List.nil_append, List.cons_append, Option.toList_some, Option.toList_none, not_true_eq_false, not_false_eq_true]
    refine KW_callV hC (by decide +kernel) kl7_48 (by decide) ((m7_no 1)) rfl rfl (Nat.le_of_ble_eq_true rfl) rfl h7 (by simp [kOkL, kOk, h7]) (by simp [kOkS]) (Nat.le_of_ble_eq_true rfl) (Nat.le_of_ble_eq_true rfl) (Nat.le_of_ble_eq_true rfl) ?_
    rintro v M' ⟨rfl, rfl⟩
    refine kwX7_group_37 hC hE ?_
    simp only [kbX7_group_37, mX7_group, kblk, kstp, kent, kpad, kget, kst1, kst2, kc2, cond_false, cond_true, kfv, kfit, kOkf, kputv, kputD, kputG, kcpy, kcat, kRR, kNN, true_and, and_true, if_true, if_false, if_pos, Nat.reduceAdd, Nat.reduceEqDiff, Nat.reduceLeDiff, Nat.reduceLT, reduceIte, Prod.mk.injEq, eq_self, false_and, and_false, reduceCtorEq, Nat.reduceSub, List.reverse_cons, List.reverse_nil, List.nil_append, List.cons_append, Option.toList_some, Option.toList_none, not_true_eq_false, not_false_eq_true]
    exact ⟨Or.inr ⟨hn, rfl, mPub_no ht hm 1⟩, trivial, by decide, by decide⟩
  refine kwX7_group_0 hC hE ?_
  simp only [kbX7_group_0, mX7_group, kblk, kstp, kent, kpad, kget, kst1, kst2, kc2, cond_false, cond_true, kfv, kfit, kOkf, kputv, kputD, kputG, kcpy, kcat, kRR, kNN, true_and, and_true, if_true, if_false, if_pos, Nat.reduceAdd, Nat.reduceEqDiff, Nat.reduceLeDiff, Nat.reduceLT, reduceIte, Prod.mk.injEq, eq_self, false_and, and_false, reduceCtorEq, Nat.reduceSub, List.reverse_cons, List.reverse_nil, List.nil_append, List.cons_append, Option.toList_some, Option.toList_none, not_true_eq_false, not_false_eq_true, h7]
  refine KW_callV hC (by decide +kernel) kl7_79 (by decide) ((m7_isGroup hm0 hG91 c)) rfl rfl (Nat.le_of_ble_eq_true rfl) rfl h7 (by simp [kOkL, kOk, h7]) (by simp [kOkS]) (Nat.le_of_ble_eq_true rfl) (Nat.le_of_ble_eq_true rfl) (Nat.le_of_ble_eq_true rfl) ?_
  rintro v M' ⟨rfl, rfl⟩
  refine kwX7_group_10 hC hE ?_
  simp only [kbX7_group_10, mX7_group, kblk, kstp, kent, kpad, kget, kst1, kst2, kc2, cond_false, cond_true, kfv, kfit, kOkf, kputv, kputD, kputG, kcpy, kcat, kRR, kNN, true_and, and_true, if_true, if_false, if_pos, Nat.reduceAdd, Nat.reduceEqDiff, Nat.reduceLeDiff, Nat.reduceLT, reduceIte, Prod.mk.injEq, eq_self, false_and, and_false, reduceCtorEq, Nat.reduceSub, List.reverse_cons, List.reverse_nil, List.nil_append, List.cons_append, Option.toList_some, Option.toList_none, not_true_eq_false, not_false_eq_true]
  refine ⟨fun h => bad (fun z => by rw [if_pos z.1] at h; exact absurd h (by decide)), fun h => ?_⟩
  have hc : 0 ≤ c ∧ c < nI (tG σ) := Classical.byContradiction fun z => h (if_neg z)
  refine kwX7_group_13 hC hE ?_
  simp only [kbX7_group_13, mX7_group, kblk, kstp, kent, kpad, kget, kst1, kst2, kc2, cond_false, cond_true, kfv, kfit, kOkf, kputv, kputD, kputG, kcpy, kcat, kRR, kNN, true_and, and_true, if_true, if_false, if_pos, Nat.reduceAdd, Nat.reduceEqDiff, Nat.reduceLeDiff, Nat.reduceLT, reduceIte, Prod.mk.injEq, eq_self, false_and, and_false, reduceCtorEq, Nat.reduceSub, List.reverse_cons, List.reverse_nil, List.nil_append, List.cons_append, Option.toList_some, Option.toList_none, not_true_eq_false, not_false_eq_true]
  refine KW_callS hC (by decide +kernel) kl7_41 (by decide) ((m7_isIn (km (kput D (7, 4, 0) 0 0) G) u 0 7)) rfl rfl (by simp [kOkL, kOk, h7]) (by simp [kOkS]) (Nat.le_of_ble_eq_true rfl) (Nat.le_of_ble_eq_true rfl) (Nat.le_of_ble_eq_true rfl) ?_
  rintro v M' ⟨rfl, rfl⟩
  refine kwX7_group_20 hC hE ?_
  simp only [kbX7_group_20, mX7_group, kblk, kstp, kent, kpad, kget, kst1, kst2, kc2, cond_false, cond_true, kfv, kfit, kOkf, kputv, kputD, kputG, kcpy, kcat, kRR, kNN, true_and, and_true, if_true, if_false, if_pos, Nat.reduceAdd, Nat.reduceEqDiff, Nat.reduceLeDiff, Nat.reduceLT, reduceIte, Prod.mk.injEq, eq_self, false_and, and_false, reduceCtorEq, Nat.reduceSub, List.reverse_cons, List.reverse_nil, List.nil_append, List.cons_append, Option.toList_some, Option.toList_none, not_true_eq_false, not_false_eq_true]
  refine ⟨fun h2 => bad (fun z => by rw [if_pos ⟨z.2.1, (le_lit (a := 7) (b := 8) rfl (by decide)).mpr z.2.2⟩] at h2; exact absurd h2 (by decide)), fun h2 => ?_⟩
  have hu0 : 0 ≤ u ∧ u ≤ 7 := Classical.byContradiction fun z => h2 (if_neg z)
  obtain ⟨i, hi, rfl⟩ := in_range (show tG σ < 2 ^ 31 by omega) hc
  obtain ⟨j, hj, rfl⟩ := in_range (n := 8) (by decide) ⟨hu0.1, (le_lit (a := 7) (b := 8) rfl (by decide)).mp hu0.2⟩
  refine kwX7_group_23 hC hE ?_
  simp only [kbX7_group_23, mX7_group, kblk, kstp, kent, kpad, kget, kst1, kst2, kc2, cond_false, cond_true, kfv, kfit, kOkf, kputv, kputD, kputG, kcpy, kcat, kRR, kNN, true_and, and_true, if_true, if_false, if_pos, Nat.reduceAdd, Nat.reduceEqDiff, Nat.reduceLeDiff, Nat.reduceLT, reduceIte, Prod.mk.injEq, eq_self, false_and, and_false, reduceCtorEq, Nat.reduceSub, List.reverse_cons, List.reverse_nil, List.nil_append, List.cons_append, Option.toList_some, Option.toList_none, not_true_eq_false, not_false_eq_true]
  refine KW_callV hC (by decide +kernel) kl7_110 (by decide) ((m7_groupTold hm0 hw hi hj)) rfl rfl (Nat.le_of_ble_eq_true rfl) rfl h7 (by simp [kOkL, kOk, h7]) (by simp [kOkS]) (Nat.le_of_ble_eq_true rfl) (Nat.le_of_ble_eq_true rfl) (Nat.le_of_ble_eq_true rfl) ?_
  rintro v M' ⟨rfl, hsub⟩
  refine KW.sub hsub (fun i hi => by rw [hL0] at hi; exact hi) ?_
  refine kwX7_group_29 hC hE ?_
  simp only [kbX7_group_29, mX7_group, kblk, kstp, kent, kpad, kget, kst1, kst2, kc2, cond_false, cond_true, kfv, kfit, kOkf, kputv, kputD, kputG, kcpy, kcat, kRR, kNN, true_and, and_true, if_true, if_false, if_pos, Nat.reduceAdd, Nat.reduceEqDiff, Nat.reduceLeDiff, Nat.reduceLT, reduceIte, Prod.mk.injEq, eq_self, false_and, and_false, reduceCtorEq, Nat.reduceSub, List.reverse_cons, List.reverse_nil, List.nil_append, List.cons_append, Option.toList_some, Option.toList_none, not_true_eq_false, not_false_eq_true]
  refine kwX7_group_37 hC hE ?_
  simp only [kbX7_group_37, mX7_group, kblk, kstp, kent, kpad, kget, kst1, kst2, kc2, cond_false, cond_true, kfv, kfit, kOkf, kputv, kputD, kputG, kcpy, kcat, kRR, kNN, true_and, and_true, if_true, if_false, if_pos, Nat.reduceAdd, Nat.reduceEqDiff, Nat.reduceLeDiff, Nat.reduceLT, reduceIte, Prod.mk.injEq, eq_self, false_and, and_false, reduceCtorEq, Nat.reduceSub, List.reverse_cons, List.reverse_nil, List.nil_append, List.cons_append, Option.toList_some, Option.toList_none, not_true_eq_false, not_false_eq_true]
  exact ⟨Or.inl ⟨i, j, hi, hj, rfl, rfl, rfl, mPub_0 ht hm⟩, trivial, by decide, by decide⟩
theorem m7_lane (ht : mTop D σ) (hm : mSt 2 D σ) {b hf : Nat} (hw : kWf0 b hf 0 hf σ) (c u : Int32) : SpQ mX7_lane 1 4 [kR (some (7, 4, 0)), kI c, kI u] (km D G) (fun v M' => (∃ i j, i < tL σ ∧ j < 4 ∧ c = nI i ∧ u = nI j ∧ v = some (kI (tLaneFact σ i j)) ∧ mPub D G σ 0 M') ∨ (¬ ((0 ≤ c ∧ c < nI (tL σ)) ∧ 0 ≤ u ∧ u < 4) ∧ v = some (kI 0) ∧ mPub D G σ 1 M')) := by
  refine SpQ_of (own := 7) (ini := false) (by decide +kernel) rfl (by decide) (Nat.le_of_ble_eq_true rfl) ?_
  intro X hC hE hL0
  have h7 := mLive7
  have hx := mLive (P := 2) (Or.inl rfl)
  have ht0 := mTop_thr ht 0
  have hm0 := mSt_7 (Or.inl rfl) hm 0 0
  obtain ⟨bC, hL, hG91, bS, bQ⟩ := hw.1.1
  have bad : ¬ ((0 ≤ c ∧ c < nI (tL σ)) ∧ 0 ≤ u ∧ u < 4) → KW X 31 [some (kR (some (7, 4, 0))), some (kI c), some (kI u)] [] (km (kput D (7, 4, 0) 0 0) G) 0 0 := by
    intro hn
    refine kwX7_lane_31 hC hE ?_
    simp only [kbX7_lane_31, mX7_lane, kblk, kstp, kent, kpad, kget, kst1, kst2, kc2, cond_false, cond_true, kfv, kfit, kOkf, kputv, kputD, kputG, kcpy, kcat, kRR, kNN, true_and, and_true, if_true, if_false, if_pos, Nat.reduceAdd, Nat.reduceEqDiff, Nat.reduceLeDiff, Nat.reduceLT, reduceIte, Prod.mk.injEq, eq_self, false_and, and_false, reduceCtorEq, Nat.reduceSub, List.reverse_cons, List.reverse_nil, List.nil_append, List.cons_append, Option.toList_some, Option.toList_none, not_true_eq_false, not_false_eq_true]
    refine KW_callV hC (by decide +kernel) kl7_48 (by decide) ((m7_no 1)) rfl rfl (Nat.le_of_ble_eq_true rfl) rfl h7 (by simp [kOkL, kOk, h7]) (by simp [kOkS]) (Nat.le_of_ble_eq_true rfl) (Nat.le_of_ble_eq_true rfl) (Nat.le_of_ble_eq_true rfl) ?_
    rintro v M' ⟨rfl, rfl⟩
    refine kwX7_lane_36 hC hE ?_
    simp only [kbX7_lane_36, mX7_lane, kblk, kstp, kent, kpad, kget, kst1, kst2, kc2, cond_false, cond_true, kfv, kfit, kOkf, kputv, kputD, kputG, kcpy, kcat, kRR, kNN, true_and, and_true, if_true, if_false, if_pos, Nat.reduceAdd, Nat.reduceEqDiff, Nat.reduceLeDiff, Nat.reduceLT, reduceIte, Prod.mk.injEq, eq_self, false_and, and_false, reduceCtorEq, Nat.reduceSub, List.reverse_cons, List.reverse_nil, List.nil_append, List.cons_append, Option.toList_some, Option.toList_none, not_true_eq_false, not_false_eq_true]
    exact ⟨Or.inr ⟨hn, rfl, mPub_no ht hm 1⟩, trivial, by decide, by decide⟩
  refine kwX7_lane_0 hC hE ?_
  simp only [kbX7_lane_0, mX7_lane, kblk, kstp, kent, kpad, kget, kst1, kst2, kc2, cond_false, cond_true, kfv, kfit, kOkf, kputv, kputD, kputG, kcpy, kcat, kRR, kNN, true_and, and_true, if_true, if_false, if_pos, Nat.reduceAdd, Nat.reduceEqDiff, Nat.reduceLeDiff, Nat.reduceLT, reduceIte, Prod.mk.injEq, eq_self, false_and, and_false, reduceCtorEq, Nat.reduceSub, List.reverse_cons, List.reverse_nil, List.nil_append, List.cons_append, Option.toList_some, Option.toList_none, not_true_eq_false, not_false_eq_true, h7]
  refine KW_callV hC (by decide +kernel) kl7_71 (by decide) ((m7_isLane ht0 hL c)) rfl rfl (Nat.le_of_ble_eq_true rfl) rfl h7 (by simp [kOkL, kOk, h7]) (by simp [kOkS]) (Nat.le_of_ble_eq_true rfl) (Nat.le_of_ble_eq_true rfl) (Nat.le_of_ble_eq_true rfl) ?_
  rintro v M' ⟨rfl, rfl⟩
  refine kwX7_lane_10 hC hE ?_
  simp only [kbX7_lane_10, mX7_lane, kblk, kstp, kent, kpad, kget, kst1, kst2, kc2, cond_false, cond_true, kfv, kfit, kOkf, kputv, kputD, kputG, kcpy, kcat, kRR, kNN, true_and, and_true, if_true, if_false, if_pos, Nat.reduceAdd, Nat.reduceEqDiff, Nat.reduceLeDiff, Nat.reduceLT, reduceIte, Prod.mk.injEq, eq_self, false_and, and_false, reduceCtorEq, Nat.reduceSub, List.reverse_cons, List.reverse_nil, List.nil_append, List.cons_append, Option.toList_some, Option.toList_none, not_true_eq_false, not_false_eq_true]
  refine ⟨fun h => bad (fun z => by rw [if_pos z.1] at h; exact absurd h (by decide)), fun h => ?_⟩
  have hc : 0 ≤ c ∧ c < nI (tL σ) := Classical.byContradiction fun z => h (if_neg z)
  refine kwX7_lane_13 hC hE ?_
  simp only [kbX7_lane_13, mX7_lane, kblk, kstp, kent, kpad, kget, kst1, kst2, kc2, cond_false, cond_true, kfv, kfit, kOkf, kputv, kputD, kputG, kcpy, kcat, kRR, kNN, true_and, and_true, if_true, if_false, if_pos, Nat.reduceAdd, Nat.reduceEqDiff, Nat.reduceLeDiff, Nat.reduceLT, reduceIte, Prod.mk.injEq, eq_self, false_and, and_false, reduceCtorEq, Nat.reduceSub, List.reverse_cons, List.reverse_nil, List.nil_append, List.cons_append, Option.toList_some, Option.toList_none, not_true_eq_false, not_false_eq_true]
  refine KW_callS hC (by decide +kernel) kl7_41 (by decide) ((m7_isIn (km (kput D (7, 4, 0) 0 0) G) u 0 3)) rfl rfl (by simp [kOkL, kOk, h7]) (by simp [kOkS]) (Nat.le_of_ble_eq_true rfl) (Nat.le_of_ble_eq_true rfl) (Nat.le_of_ble_eq_true rfl) ?_
  rintro v M' ⟨rfl, rfl⟩
  refine kwX7_lane_19 hC hE ?_
  simp only [kbX7_lane_19, mX7_lane, kblk, kstp, kent, kpad, kget, kst1, kst2, kc2, cond_false, cond_true, kfv, kfit, kOkf, kputv, kputD, kputG, kcpy, kcat, kRR, kNN, true_and, and_true, if_true, if_false, if_pos, Nat.reduceAdd, Nat.reduceEqDiff, Nat.reduceLeDiff, Nat.reduceLT, reduceIte, Prod.mk.injEq, eq_self, false_and, and_false, reduceCtorEq, Nat.reduceSub, List.reverse_cons, List.reverse_nil, List.nil_append, List.cons_append, Option.toList_some, Option.toList_none, not_true_eq_false, not_false_eq_true]
  refine ⟨fun h2 => bad (fun z => by rw [if_pos ⟨z.2.1, (le_lit (a := 3) (b := 4) rfl (by decide)).mpr z.2.2⟩] at h2; exact absurd h2 (by decide)), fun h2 => ?_⟩
  have hu0 : 0 ≤ u ∧ u ≤ 3 := Classical.byContradiction fun z => h2 (if_neg z)
  obtain ⟨i, hi, rfl⟩ := in_range (show tL σ < 2 ^ 31 by omega) hc
  obtain ⟨j, hj, rfl⟩ := in_range (n := 4) (by decide) ⟨hu0.1, (le_lit (a := 3) (b := 4) rfl (by decide)).mp hu0.2⟩
  refine kwX7_lane_22 hC hE ?_
  simp only [kbX7_lane_22, mX7_lane, kblk, kstp, kent, kpad, kget, kst1, kst2, kc2, cond_false, cond_true, kfv, kfit, kOkf, kputv, kputD, kputG, kcpy, kcat, kRR, kNN, true_and, and_true, if_true, if_false, if_pos, Nat.reduceAdd, Nat.reduceEqDiff, Nat.reduceLeDiff, Nat.reduceLT, reduceIte, Prod.mk.injEq, eq_self, false_and, and_false, reduceCtorEq, Nat.reduceSub, List.reverse_cons, List.reverse_nil, List.nil_append, List.cons_append, Option.toList_some, Option.toList_none, not_true_eq_false, not_false_eq_true]
  refine KW_callV hC (by decide +kernel) kl7_128 (by decide) ((m7_laneTold ht0 hm0 hw hi hj)) rfl rfl (Nat.le_of_ble_eq_true rfl) rfl h7 (by simp [kOkL, kOk, h7]) (by simp [kOkS]) (Nat.le_of_ble_eq_true rfl) (Nat.le_of_ble_eq_true rfl) (Nat.le_of_ble_eq_true rfl) ?_
  rintro v M' ⟨rfl, hsub⟩
  refine KW.sub hsub (fun i hi => by rw [hL0] at hi; exact hi) ?_
  refine kwX7_lane_28 hC hE ?_
  simp only [kbX7_lane_28, mX7_lane, kblk, kstp, kent, kpad, kget, kst1, kst2, kc2, cond_false, cond_true, kfv, kfit, kOkf, kputv, kputD, kputG, kcpy, kcat, kRR, kNN, true_and, and_true, if_true, if_false, if_pos, Nat.reduceAdd, Nat.reduceEqDiff, Nat.reduceLeDiff, Nat.reduceLT, reduceIte, Prod.mk.injEq, eq_self, false_and, and_false, reduceCtorEq, Nat.reduceSub, List.reverse_cons, List.reverse_nil, List.nil_append, List.cons_append, Option.toList_some, Option.toList_none, not_true_eq_false, not_false_eq_true]
  refine kwX7_lane_36 hC hE ?_
  simp only [kbX7_lane_36, mX7_lane, kblk, kstp, kent, kpad, kget, kst1, kst2, kc2, cond_false, cond_true, kfv, kfit, kOkf, kputv, kputD, kputG, kcpy, kcat, kRR, kNN, true_and, and_true, if_true, if_false, if_pos, Nat.reduceAdd, Nat.reduceEqDiff, Nat.reduceLeDiff, Nat.reduceLT, reduceIte, Prod.mk.injEq, eq_self, false_and, and_false, reduceCtorEq, Nat.reduceSub, List.reverse_cons, List.reverse_nil, List.nil_append, List.cons_append, Option.toList_some, Option.toList_none, not_true_eq_false, not_false_eq_true]
  exact ⟨Or.inl ⟨i, j, hi, hj, rfl, rfl, rfl, mPub_0 ht hm⟩, trivial, by decide, by decide⟩
theorem m7_chair (ht : mTop D σ) (hm : mSt 2 D σ) {b hf : Nat} (hw : kWf0 b hf 0 hf σ) (c u : Int32) : SpQ mX7_chair 1 5 [kR (some (7, 4, 0)), kI c, kI u] (km D G) (fun v M' => (∃ i j, i < tC σ ∧ j < 5 ∧ c = nI i ∧ u = nI j ∧ v = some (kI (tZ σ j i)) ∧ mPub D G σ 0 M') ∨ (¬ ((0 ≤ c ∧ c < nI (tC σ)) ∧ 0 ≤ u ∧ u < 5) ∧ v = some (kI 0) ∧ mPub D G σ 1 M')) := by
  refine SpQ_of (own := 7) (ini := false) (by decide +kernel) rfl (by decide) (Nat.le_of_ble_eq_true rfl) ?_
  intro X hC hE hL0
  have h7 := mLive7
  have hx := mLive (P := 2) (Or.inl rfl)
  have ht0 := mTop_thr ht 0
  have hm0 := mSt_7 (Or.inl rfl) hm 0 0
  obtain ⟨bC, hL, hG91, bS, bQ⟩ := hw.1.1
  have q2 : kput D (7, 4, 0) 0 0 (7, 4, 0) 2 = nI (tC σ) := ht0.1.2.1
  have bad : ¬ ((0 ≤ c ∧ c < nI (tC σ)) ∧ 0 ≤ u ∧ u < 5) → KW X 37 [some (kR (some (7, 4, 0))), some (kI c), some (kI u)] [] (km (kput D (7, 4, 0) 0 0) G) 0 0 := by
    intro hn
    refine kwX7_chair_37 hC hE ?_
    simp only [kbX7_chair_37, mX7_chair, kblk, kstp, kent, kpad, kget, kst1, kst2, kc2, cond_false, cond_true, kfv, kfit, kOkf, kputv, kputD, kputG, kcpy, kcat, kRR, kNN, true_and, and_true, if_true, if_false, if_pos, Nat.reduceAdd, Nat.reduceEqDiff, Nat.reduceLeDiff, Nat.reduceLT, reduceIte, Prod.mk.injEq, eq_self, false_and, and_false, reduceCtorEq, Nat.reduceSub, List.reverse_cons, List.reverse_nil, List.nil_append, List.cons_append, Option.toList_some, Option.toList_none, not_true_eq_false, not_false_eq_true]
    refine KW_callV hC (by decide +kernel) kl7_48 (by decide) ((m7_no 1)) rfl rfl (Nat.le_of_ble_eq_true rfl) rfl h7 (by simp [kOkL, kOk, h7]) (by simp [kOkS]) (Nat.le_of_ble_eq_true rfl) (Nat.le_of_ble_eq_true rfl) (Nat.le_of_ble_eq_true rfl) ?_
    rintro v M' ⟨rfl, rfl⟩
    refine kwX7_chair_42 hC hE ?_
    simp only [kbX7_chair_42, mX7_chair, kblk, kstp, kent, kpad, kget, kst1, kst2, kc2, cond_false, cond_true, kfv, kfit, kOkf, kputv, kputD, kputG, kcpy, kcat, kRR, kNN, true_and, and_true, if_true, if_false, if_pos, Nat.reduceAdd, Nat.reduceEqDiff, Nat.reduceLeDiff, Nat.reduceLT, reduceIte, Prod.mk.injEq, eq_self, false_and, and_false, reduceCtorEq, Nat.reduceSub, List.reverse_cons, List.reverse_nil, List.nil_append, List.cons_append, Option.toList_some, Option.toList_none, not_true_eq_false, not_false_eq_true]
    exact ⟨Or.inr ⟨hn, rfl, mPub_no ht hm 1⟩, trivial, by decide, by decide⟩
  refine kwX7_chair_0 hC hE ?_
  simp only [kbX7_chair_0, mX7_chair, kblk, kstp, kent, kpad, kget, kst1, kst2, kc2, cond_false, cond_true, kfv, kfit, kOkf, kputv, kputD, kputG, kcpy, kcat, kRR, kNN, true_and, and_true, if_true, if_false, if_pos, Nat.reduceAdd, Nat.reduceEqDiff, Nat.reduceLeDiff, Nat.reduceLT, reduceIte, Prod.mk.injEq, eq_self, false_and, and_false, reduceCtorEq, Nat.reduceSub, List.reverse_cons, List.reverse_nil, List.nil_append, List.cons_append, Option.toList_some, Option.toList_none, not_true_eq_false, not_false_eq_true, h7, q2]
  refine KW_callS hC (by decide +kernel) kl7_41 (by decide) ((m7_isIn (km (kput D (7, 4, 0) 0 0) G) c 0 (nI (tC σ) - 1))) rfl rfl (by simp [kOkL, kOk, h7]) (by simp [kOkS]) (Nat.le_of_ble_eq_true rfl) (Nat.le_of_ble_eq_true rfl) (Nat.le_of_ble_eq_true rfl) ?_
  rintro v M' ⟨rfl, rfl⟩
  rw [if_pred (show tC σ < 2 ^ 31 by omega)]
  refine kwX7_chair_16 hC hE ?_
  simp only [kbX7_chair_16, mX7_chair, kblk, kstp, kent, kpad, kget, kst1, kst2, kc2, cond_false, cond_true, kfv, kfit, kOkf, kputv, kputD, kputG, kcpy, kcat, kRR, kNN, true_and, and_true, if_true, if_false, if_pos, Nat.reduceAdd, Nat.reduceEqDiff, Nat.reduceLeDiff, Nat.reduceLT, reduceIte, Prod.mk.injEq, eq_self, false_and, and_false, reduceCtorEq, Nat.reduceSub, List.reverse_cons, List.reverse_nil, List.nil_append, List.cons_append, Option.toList_some, Option.toList_none, not_true_eq_false, not_false_eq_true]
  refine ⟨fun h => bad (fun z => by rw [if_pos z.1] at h; exact absurd h (by decide)), fun h => ?_⟩
  have hc : 0 ≤ c ∧ c < nI (tC σ) := Classical.byContradiction fun z => h (if_neg z)
  refine kwX7_chair_19 hC hE ?_
  simp only [kbX7_chair_19, mX7_chair, kblk, kstp, kent, kpad, kget, kst1, kst2, kc2, cond_false, cond_true, kfv, kfit, kOkf, kputv, kputD, kputG, kcpy, kcat, kRR, kNN, true_and, and_true, if_true, if_false, if_pos, Nat.reduceAdd, Nat.reduceEqDiff, Nat.reduceLeDiff, Nat.reduceLT, reduceIte, Prod.mk.injEq, eq_self, false_and, and_false, reduceCtorEq, Nat.reduceSub, List.reverse_cons, List.reverse_nil, List.nil_append, List.cons_append, Option.toList_some, Option.toList_none, not_true_eq_false, not_false_eq_true]
  refine KW_callS hC (by decide +kernel) kl7_41 (by decide) ((m7_isIn (km (kput D (7, 4, 0) 0 0) G) u 0 4)) rfl rfl (by simp [kOkL, kOk, h7]) (by simp [kOkS]) (Nat.le_of_ble_eq_true rfl) (Nat.le_of_ble_eq_true rfl) (Nat.le_of_ble_eq_true rfl) ?_
  rintro v M' ⟨rfl, rfl⟩
  refine kwX7_chair_25 hC hE ?_
  simp only [kbX7_chair_25, mX7_chair, kblk, kstp, kent, kpad, kget, kst1, kst2, kc2, cond_false, cond_true, kfv, kfit, kOkf, kputv, kputD, kputG, kcpy, kcat, kRR, kNN, true_and, and_true, if_true, if_false, if_pos, Nat.reduceAdd, Nat.reduceEqDiff, Nat.reduceLeDiff, Nat.reduceLT, reduceIte, Prod.mk.injEq, eq_self, false_and, and_false, reduceCtorEq, Nat.reduceSub, List.reverse_cons, List.reverse_nil, List.nil_append, List.cons_append, Option.toList_some, Option.toList_none, not_true_eq_false, not_false_eq_true]
  refine ⟨fun h2 => bad (fun z => by rw [if_pos ⟨z.2.1, (le_lit (a := 4) (b := 5) rfl (by decide)).mpr z.2.2⟩] at h2; exact absurd h2 (by decide)), fun h2 => ?_⟩
  have hu0 : 0 ≤ u ∧ u ≤ 4 := Classical.byContradiction fun z => h2 (if_neg z)
  obtain ⟨i, hi, rfl⟩ := in_range (show tC σ < 2 ^ 31 by omega) hc
  obtain ⟨j, hj, rfl⟩ := in_range (n := 5) (by decide) ⟨hu0.1, (le_lit (a := 4) (b := 5) rfl (by decide)).mp hu0.2⟩
  refine kwX7_chair_28 hC hE ?_
  simp only [kbX7_chair_28, mX7_chair, kblk, kstp, kent, kpad, kget, kst1, kst2, kc2, cond_false, cond_true, kfv, kfit, kOkf, kputv, kputD, kputG, kcpy, kcat, kRR, kNN, true_and, and_true, if_true, if_false, if_pos, Nat.reduceAdd, Nat.reduceEqDiff, Nat.reduceLeDiff, Nat.reduceLT, reduceIte, Prod.mk.injEq, eq_self, false_and, and_false, reduceCtorEq, Nat.reduceSub, List.reverse_cons, List.reverse_nil, List.nil_append, List.cons_append, Option.toList_some, Option.toList_none, not_true_eq_false, not_false_eq_true]
  refine KW_callV hC (by decide +kernel) kl7_116 (by decide) ((m7_chairTold ht0 hm0 hw hi hj)) rfl rfl (Nat.le_of_ble_eq_true rfl) rfl h7 (by simp [kOkL, kOk, h7]) (by simp [kOkS]) (Nat.le_of_ble_eq_true rfl) (Nat.le_of_ble_eq_true rfl) (Nat.le_of_ble_eq_true rfl) ?_
  rintro v M' ⟨rfl, hsub⟩
  refine KW.sub hsub (fun i hi => by rw [hL0] at hi; exact hi) ?_
  refine kwX7_chair_34 hC hE ?_
  simp only [kbX7_chair_34, mX7_chair, kblk, kstp, kent, kpad, kget, kst1, kst2, kc2, cond_false, cond_true, kfv, kfit, kOkf, kputv, kputD, kputG, kcpy, kcat, kRR, kNN, true_and, and_true, if_true, if_false, if_pos, Nat.reduceAdd, Nat.reduceEqDiff, Nat.reduceLeDiff, Nat.reduceLT, reduceIte, Prod.mk.injEq, eq_self, false_and, and_false, reduceCtorEq, Nat.reduceSub, List.reverse_cons, List.reverse_nil, List.nil_append, List.cons_append, Option.toList_some, Option.toList_none, not_true_eq_false, not_false_eq_true]
  refine kwX7_chair_42 hC hE ?_
  simp only [kbX7_chair_42, mX7_chair, kblk, kstp, kent, kpad, kget, kst1, kst2, kc2, cond_false, cond_true, kfv, kfit, kOkf, kputv, kputD, kputG, kcpy, kcat, kRR, kNN, true_and, and_true, if_true, if_false, if_pos, Nat.reduceAdd, Nat.reduceEqDiff, Nat.reduceLeDiff, Nat.reduceLT, reduceIte, Prod.mk.injEq, eq_self, false_and, and_false, reduceCtorEq, Nat.reduceSub, List.reverse_cons, List.reverse_nil, List.nil_append, List.cons_append, Option.toList_some, Option.toList_none, not_true_eq_false, not_false_eq_true]
  exact ⟨Or.inl ⟨i, j, hi, hj, rfl, rfl, rfl, mPub_0 ht hm⟩, trivial, by decide, by decide⟩
end COUNT

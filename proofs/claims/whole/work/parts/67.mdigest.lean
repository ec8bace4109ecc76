/-! The reference: the digest. -/
section MDIGEST
variable {D : KI → Nat → Int32} {G : KI → Nat → Int64} {σ : KT}
theorem m7_digest (ht : mTop D σ) (hm : mSt 2 D σ) {b hf : Nat} (hw : kWf0 b hf 0 hf σ) (hG90 : tG σ ≤ 90) : SpQ mX7_digest 849 6493 [kR (some (7, 4, 0))] (km D G) (fun v M' => v = some (kL (tDigest σ)) ∧ mPub D G σ 0 M') := by
  refine SpQ_of (own := 7) (ini := false) (by decide +kernel) rfl (by decide) (Nat.le_of_ble_eq_true rfl) ?_
  intro X hC hE hL0
  have h7 := mLive7
  have hx := mLive (P := 2) (Or.inl rfl)
  have ht0 := mTop_thr ht 0
  have hm0 := mSt_7 (Or.inl rfl) hm 0 0
  obtain ⟨bC, hL, hG91, bS, bQ⟩ := hw.1.1
  have hlen := hw.1.slen
  have l9 := mLive8 (P := 2) (k := 9) (Or.inl rfl) (by decide) (by decide)
  have n9 : kN8 2 9 = 20 := rfl
  have l13 := mLive8 (P := 2) (k := 13) (Or.inl rfl) (by decide) (by decide)
  have n13 : kN8 2 13 = 4 := rfl
  have l14 := mLive8 (P := 2) (k := 14) (Or.inl rfl) (by decide) (by decide)
  have n14 : kN8 2 14 = 364 := rfl
  have l42 := mLive4 (k := 2) (by decide)
  have n42 : kN8 4 2 = 24 := rfl
  have q8 : kput D (7, 4, 0) 0 0 (6, 2, 0) 8 = nI (tS σ).length := hm0.1.2.2.2.2.2.2.2.2
  have q3 : kput D (7, 4, 0) 0 0 (6, 2, 0) 3 = nI (tG σ) := hm0.1.2.2.2.1
  have t2 : kput D (7, 4, 0) 0 0 (7, 4, 0) 2 = nI (tC σ) := ht0.1.2.1
  have t3 : kput D (7, 4, 0) 0 0 (7, 4, 0) 3 = nI (tL σ) := ht0.1.2.2
  have fin : mPub D G σ 0 (km (kput D (7, 4, 0) 0 0) G) := mPub_0 ht hm
  generalize hDD : kput D (7, 4, 0) 0 0 = D0 at *
  have shedL : ∀ (A : Int64), fmix (rowF (tS σ)) A (tS σ).length = tDigest σ → ∀ (m i : Nat), i + m = (tS σ).length → KW X 254 [some (kR (some (7, 4, 0))), some (kL (fmix (rowF (tS σ)) A i)), none, some (kI (nI i)), none] [] (km D0 G) 849 6493 := by
    intro A hA m
    induction m with
    | zero =>
      intro i him
      have hi : i = (tS σ).length := by omega
      subst hi
      rw [hA]
      refine kwX7_digest_254 hC hE ?_
      simp only [kbX7_digest_254, mX7_digest, kblk, kstp, kent, kpad, kget, kst1, kst2, kc2, cond_false, cond_true, kfv, kfit, kOkf, kputv, kputD, kputG, kcpy, kcat, kRR, kNN, true_and, and_true, if_true, if_false, if_pos, Nat.reduceAdd, Nat.reduceEqDiff, Nat.reduceLeDiff, Nat.reduceLT, reduceIte, Prod.mk.injEq, eq_self, false_and, and_false, reduceCtorEq, Nat.reduceSub, List.reverse_cons, List.reverse_nil, List.nil_append, List.cons_append, Option.toList_some, Option.toList_none, not_true_eq_false, not_false_eq_true, h7, hx, q8]
      refine ⟨fun _ => ?_, fun w => absurd (nI_le (Nat.le_refl _) (by omega)) w⟩
      refine kwX7_digest_288 hC hE ?_
      simp only [kbX7_digest_288, mX7_digest, kblk, kstp, kent, kpad, kget, kst1, kst2, kc2, cond_false, cond_true, kfv, kfit, kOkf, kputv, kputD, kputG, kcpy, kcat, kRR, kNN, true_and, and_true, if_true, if_false, if_pos, Nat.reduceAdd, Nat.reduceEqDiff, Nat.reduceLeDiff, Nat.reduceLT, reduceIte, Prod.mk.injEq, eq_self, false_and, and_false, reduceCtorEq, Nat.reduceSub, List.reverse_cons, List.reverse_nil, List.nil_append, List.cons_append, Option.toList_some, Option.toList_none, not_true_eq_false, not_false_eq_true]
      exact ⟨⟨rfl, fin⟩, trivial, Nat.le_refl _, Nat.le_refl _⟩
    | succ m ih =>
      intro i him
      have hi : i < (tS σ).length := by omega
      have hv := hm0.2.1 i _ (List.getElem?_eq_getElem hi)
      have e : nI (tS σ)[i] = rowF (tS σ) i := by unfold rowF; rw [List.getElem?_eq_getElem hi]; rfl
      rw [e] at hv
      refine kwX7_digest_254 hC hE ?_
      simp only [kbX7_digest_254, mX7_digest, kblk, kstp, kent, kpad, kget, kst1, kst2, kc2, cond_false, cond_true, kfv, kfit, kOkf, kputv, kputD, kputG, kcpy, kcat, kRR, kNN, true_and, and_true, if_true, if_false, if_pos, Nat.reduceAdd, Nat.reduceEqDiff, Nat.reduceLeDiff, Nat.reduceLT, reduceIte, Prod.mk.injEq, eq_self, false_and, and_false, reduceCtorEq, Nat.reduceSub, List.reverse_cons, List.reverse_nil, List.nil_append, List.cons_append, Option.toList_some, Option.toList_none, not_true_eq_false, not_false_eq_true, h7, hx, q8]
      refine ⟨fun w => absurd w (nI_ge hi (by omega)), fun _ => ?_⟩
      refine kwX7_digest_265 hC hE ?_
      simp only [kbX7_digest_265, mX7_digest, kblk, kstp, kent, kpad, kget, kst1, kst2, kc2, cond_false, cond_true, kfv, kfit, kOkf, kputv, kputD, kputG, kcpy, kcat, kRR, kNN, true_and, and_true, if_true, if_false, if_pos, Nat.reduceAdd, Nat.reduceEqDiff, Nat.reduceLeDiff, Nat.reduceLT, reduceIte, Prod.mk.injEq, eq_self, false_and, and_false, reduceCtorEq, Nat.reduceSub, List.reverse_cons, List.reverse_nil, List.nil_append, List.cons_append, Option.toList_some, Option.toList_none, not_true_eq_false, not_false_eq_true, h7, hx, l9, n9, nI_clamp (show i < 2 ^ 31 by omega), hv, nI_1]
      refine ⟨vp_in_nI (show i < 20 by omega) (by omega), ?_⟩
      have hh := ih (i + 1) (by omega)
      rw [fmix_s] at hh
      exact hh
  have lanesL : ∀ (a0 : Int64), fmix (rowF (tS σ)) (gmix (fun l a => fmix (rowF (tQ σ l)) (fmix (tLaneFact σ l) a 4) (tQ σ l).length) a0 (tL σ)) (tS σ).length = tDigest σ → ∀ (m l : Nat), l + m = tL σ → KW X 162 [some (kR (some (7, 4, 0))), some (kL (gmix (fun l a => fmix (rowF (tQ σ l)) (fmix (tLaneFact σ l) a 4) (tQ σ l).length) a0 l)), none, some (kI (nI l)), none] [] (km D0 G) (833 + 4 * l) (6429 + 16 * l) := by
    intro a0 h0 m
    induction m with
    | zero =>
      intro l hlm
      have hl : l = tL σ := by omega
      subst hl
      have hh := shedL _ h0 (tS σ).length 0 (by omega)
      rw [fmix_0] at hh
      refine kwX7_digest_162 hC hE ?_
      simp only [kbX7_digest_162, mX7_digest, kblk, kstp, kent, kpad, kget, kst1, kst2, kc2, cond_false, cond_true, kfv, kfit, kOkf, kputv, kputD, kputG, kcpy, kcat, kRR, kNN, true_and, and_true, if_true, if_false, if_pos, Nat.reduceAdd, Nat.reduceEqDiff, Nat.reduceLeDiff, Nat.reduceLT, reduceIte, Prod.mk.injEq, eq_self, false_and, and_false, reduceCtorEq, Nat.reduceSub, List.reverse_cons, List.reverse_nil, List.nil_append, List.cons_append, Option.toList_some, Option.toList_none, not_true_eq_false, not_false_eq_true, h7, t3]
      refine ⟨fun _ => ?_, fun w => absurd (nI_le (Nat.le_refl _) (by omega)) w⟩
      refine kwX7_digest_252 hC hE ?_
      simp only [kbX7_digest_252, mX7_digest, kblk, kstp, kent, kpad, kget, kst1, kst2, kc2, cond_false, cond_true, kfv, kfit, kOkf, kputv, kputD, kputG, kcpy, kcat, kRR, kNN, true_and, and_true, if_true, if_false, if_pos, Nat.reduceAdd, Nat.reduceEqDiff, Nat.reduceLeDiff, Nat.reduceLT, reduceIte, Prod.mk.injEq, eq_self, false_and, and_false, reduceCtorEq, Nat.reduceSub, List.reverse_cons, List.reverse_nil, List.nil_append, List.cons_append, Option.toList_some, Option.toList_none, not_true_eq_false, not_false_eq_true]
      exact KW.widen (cs2 := 849) (sl2 := 6493) (by omega) (by omega) hh
    | succ m ih =>
      intro l hlm
      have hl : l < tL σ := by omega
      have hcl := nI_clamp (show l < 2 ^ 31 by omega)
      have hql := hw.1.qlen hl
      have q13 : D0 (8, 2, 13) l = nI (tQ σ l).length := hm0.2.2.2.2.2.1 l (by omega)
      have hnext := ih (l + 1) (by omega)
      simp only [gmix] at hnext
      generalize gmix (fun l a => fmix (rowF (tQ σ l)) (fmix (tLaneFact σ l) a 4) (tQ σ l).length) a0 l = acc at hnext
      have queueL : ∀ (m3 k : Nat), k + m3 = (tQ σ l).length → KW X 203 [some (kR (some (7, 4, 0))), some (kL (fmix (rowF (tQ σ l)) (fmix (tLaneFact σ l) acc 4) k)), none, some (kI (nI l)), some (kI (nI k))] [] (km D0 G) (833 + 4 * (l + 1)) (6429 + 16 * (l + 1)) := by
        intro m3
        induction m3 with
        | zero =>
          intro k hk
          have hk' : k = (tQ σ l).length := by omega
          subst hk'
          refine kwX7_digest_203 hC hE ?_
          simp only [kbX7_digest_203, mX7_digest, kblk, kstp, kent, kpad, kget, kst1, kst2, kc2, cond_false, cond_true, kfv, kfit, kOkf, kputv, kputD, kputG, kcpy, kcat, kRR, kNN, true_and, and_true, if_true, if_false, if_pos, Nat.reduceAdd, Nat.reduceEqDiff, Nat.reduceLeDiff, Nat.reduceLT, reduceIte, Prod.mk.injEq, eq_self, false_and, and_false, reduceCtorEq, Nat.reduceSub, List.reverse_cons, List.reverse_nil, List.nil_append, List.cons_append, Option.toList_some, Option.toList_none, not_true_eq_false, not_false_eq_true, h7, hx, l13, n13, hcl, q13]
          refine ⟨vp_in_nI (show l < 4 by omega) (by omega), fun _ => ?_, fun w => absurd (nI_le (Nat.le_refl _) (by omega)) w⟩
          refine kwX7_digest_246 hC hE ?_
          simp only [kbX7_digest_246, mX7_digest, kblk, kstp, kent, kpad, kget, kst1, kst2, kc2, cond_false, cond_true, kfv, kfit, kOkf, kputv, kputD, kputG, kcpy, kcat, kRR, kNN, true_and, and_true, if_true, if_false, if_pos, Nat.reduceAdd, Nat.reduceEqDiff, Nat.reduceLeDiff, Nat.reduceLT, reduceIte, Prod.mk.injEq, eq_self, false_and, and_false, reduceCtorEq, Nat.reduceSub, List.reverse_cons, List.reverse_nil, List.nil_append, List.cons_append, Option.toList_some, Option.toList_none, not_true_eq_false, not_false_eq_true, nI_1]
          exact KW.le (by simp [kLE]) hnext
        | succ m3 ih3 =>
          intro k hk
          have hk' : k < (tQ σ l).length := by omega
          have hv := hm0.2.2.2.2.2.2.1 l (by omega) k _ (List.getElem?_eq_getElem hk')
          have e : nI (tQ σ l)[k] = rowF (tQ σ l) k := by unfold rowF; rw [List.getElem?_eq_getElem hk']; rfl
          rw [e] at hv
          refine kwX7_digest_203 hC hE ?_
          simp only [kbX7_digest_203, mX7_digest, kblk, kstp, kent, kpad, kget, kst1, kst2, kc2, cond_false, cond_true, kfv, kfit, kOkf, kputv, kputD, kputG, kcpy, kcat, kRR, kNN, true_and, and_true, if_true, if_false, if_pos, Nat.reduceAdd, Nat.reduceEqDiff, Nat.reduceLeDiff, Nat.reduceLT, reduceIte, Prod.mk.injEq, eq_self, false_and, and_false, reduceCtorEq, Nat.reduceSub, List.reverse_cons, List.reverse_nil, List.nil_append, List.cons_append, Option.toList_some, Option.toList_none, not_true_eq_false, not_false_eq_true, h7, hx, l13, n13, hcl, q13]
          refine ⟨vp_in_nI (show l < 4 by omega) (by omega), fun w => absurd w (nI_ge hk' (by omega)), fun _ => ?_⟩
          refine kwX7_digest_217 hC hE ?_
          simp only [kbX7_digest_217, mX7_digest, kblk, kstp, kent, kpad, kget, kst1, kst2, kc2, cond_false, cond_true, kfv, kfit, kOkf, kputv, kputD, kputG, kcpy, kcat, kRR, kNN, true_and, and_true, if_true, if_false, if_pos, Nat.reduceAdd, Nat.reduceEqDiff, Nat.reduceLeDiff, Nat.reduceLT, reduceIte, Prod.mk.injEq, eq_self, false_and, and_false, reduceCtorEq, Nat.reduceSub, List.reverse_cons, List.reverse_nil, List.nil_append, List.cons_append, Option.toList_some, Option.toList_none, not_true_eq_false, not_false_eq_true, h7, hx, l14, n14, e91, nI_clamp (show 91 * l + k < 2 ^ 31 by omega), hv, nI_1]
          refine ⟨vp_in_nI (show 91 * l + k < 364 by omega) (by omega), ?_⟩
          have hh := ih3 (k + 1) (by omega)
          rw [fmix_s] at hh
          exact hh
      have innerL : ∀ (m2 j : Nat), j + m2 = 4 → KW X 173 [some (kR (some (7, 4, 0))), some (kL (fmix (tLaneFact σ l) acc j)), none, some (kI (nI l)), some (kI (nI j))] [] (km D0 G) (833 + 4 * l + j) (6429 + 16 * l + 4 * j) := by
        intro m2
        induction m2 with
        | zero =>
          intro j hj
          have hj' : j = 4 := by omega
          subst hj'
          have hh := queueL (tQ σ l).length 0 (by omega)
          rw [fmix_0] at hh
          refine kwX7_digest_173 hC hE ?_
          simp only [kbX7_digest_173, mX7_digest, kblk, kstp, kent, kpad, kget, kst1, kst2, kc2, cond_false, cond_true, kfv, kfit, kOkf, kputv, kputD, kputG, kcpy, kcat, kRR, kNN, true_and, and_true, if_true, if_false, if_pos, Nat.reduceAdd, Nat.reduceEqDiff, Nat.reduceLeDiff, Nat.reduceLT, reduceIte, Prod.mk.injEq, eq_self, false_and, and_false, reduceCtorEq, Nat.reduceSub, List.reverse_cons, List.reverse_nil, List.nil_append, List.cons_append, Option.toList_some, Option.toList_none, not_true_eq_false, not_false_eq_true]
          refine ⟨fun _ => ?_, fun w => absurd (by decide) w⟩
          refine kwX7_digest_200 hC hE ?_
          simp only [kbX7_digest_200, mX7_digest, kblk, kstp, kent, kpad, kget, kst1, kst2, kc2, cond_false, cond_true, kfv, kfit, kOkf, kputv, kputD, kputG, kcpy, kcat, kRR, kNN, true_and, and_true, if_true, if_false, if_pos, Nat.reduceAdd, Nat.reduceEqDiff, Nat.reduceLeDiff, Nat.reduceLT, reduceIte, Prod.mk.injEq, eq_self, false_and, and_false, reduceCtorEq, Nat.reduceSub, List.reverse_cons, List.reverse_nil, List.nil_append, List.cons_append, Option.toList_some, Option.toList_none, not_true_eq_false, not_false_eq_true]
          exact KW.widen (by omega) (by omega) hh
        | succ m2 ih2 =>
          intro j hj
          refine kwX7_digest_173 hC hE ?_
          simp only [kbX7_digest_173, mX7_digest, kblk, kstp, kent, kpad, kget, kst1, kst2, kc2, cond_false, cond_true, kfv, kfit, kOkf, kputv, kputD, kputG, kcpy, kcat, kRR, kNN, true_and, and_true, if_true, if_false, if_pos, Nat.reduceAdd, Nat.reduceEqDiff, Nat.reduceLeDiff, Nat.reduceLT, reduceIte, Prod.mk.injEq, eq_self, false_and, and_false, reduceCtorEq, Nat.reduceSub, List.reverse_cons, List.reverse_nil, List.nil_append, List.cons_append, Option.toList_some, Option.toList_none, not_true_eq_false, not_false_eq_true]
          refine ⟨fun w => absurd w (nI_ge (a := j) (b := 4) (by omega) (by decide)), fun _ => ?_⟩
          refine kwX7_digest_179 hC hE ?_
          simp only [kbX7_digest_179, mX7_digest, kblk, kstp, kent, kpad, kget, kst1, kst2, kc2, cond_false, cond_true, kfv, kfit, kOkf, kputv, kputD, kputG, kcpy, kcat, kRR, kNN, true_and, and_true, if_true, if_false, if_pos, Nat.reduceAdd, Nat.reduceEqDiff, Nat.reduceLeDiff, Nat.reduceLT, reduceIte, Prod.mk.injEq, eq_self, false_and, and_false, reduceCtorEq, Nat.reduceSub, List.reverse_cons, List.reverse_nil, List.nil_append, List.cons_append, Option.toList_some, Option.toList_none, not_true_eq_false, not_false_eq_true]
          refine KW_callV hC (by decide +kernel) kl7_128 (by decide) ((m7_laneTold ht0 hm0 hw hl (show j < 4 by omega))) rfl rfl (Nat.le_of_ble_eq_true rfl) rfl h7 (by simp [kOkL, kOk, h7]) (by simp [kOkS, kOk]) (Nat.le_of_ble_eq_true rfl) (by omega) (by omega) ?_
          rintro v M' ⟨rfl, hsub⟩
          refine KW.sub hsub (fun i hi => by rw [hL0] at hi; exact hi) ?_
          refine kwX7_digest_191 hC hE ?_
          simp only [kbX7_digest_191, mX7_digest, kblk, kstp, kent, kpad, kget, kst1, kst2, kc2, cond_false, cond_true, kfv, kfit, kOkf, kputv, kputD, kputG, kcpy, kcat, kRR, kNN, true_and, and_true, if_true, if_false, if_pos, Nat.reduceAdd, Nat.reduceEqDiff, Nat.reduceLeDiff, Nat.reduceLT, reduceIte, Prod.mk.injEq, eq_self, false_and, and_false, reduceCtorEq, Nat.reduceSub, List.reverse_cons, List.reverse_nil, List.nil_append, List.cons_append, Option.toList_some, Option.toList_none, not_true_eq_false, not_false_eq_true, nI_1]
          have hh := ih2 (j + 1) (by omega)
          rw [fmix_s] at hh
          exact KW.widen (by omega) (by omega) hh
      have hh := innerL 4 0 (by omega)
      rw [fmix_0] at hh
      refine kwX7_digest_162 hC hE ?_
      simp only [kbX7_digest_162, mX7_digest, kblk, kstp, kent, kpad, kget, kst1, kst2, kc2, cond_false, cond_true, kfv, kfit, kOkf, kputv, kputD, kputG, kcpy, kcat, kRR, kNN, true_and, and_true, if_true, if_false, if_pos, Nat.reduceAdd, Nat.reduceEqDiff, Nat.reduceLeDiff, Nat.reduceLT, reduceIte, Prod.mk.injEq, eq_self, false_and, and_false, reduceCtorEq, Nat.reduceSub, List.reverse_cons, List.reverse_nil, List.nil_append, List.cons_append, Option.toList_some, Option.toList_none, not_true_eq_false, not_false_eq_true, h7, t3]
      refine ⟨fun w => absurd w (nI_ge hl (by omega)), fun _ => ?_⟩
      refine kwX7_digest_170 hC hE ?_
      simp only [kbX7_digest_170, mX7_digest, kblk, kstp, kent, kpad, kget, kst1, kst2, kc2, cond_false, cond_true, kfv, kfit, kOkf, kputv, kputD, kputG, kcpy, kcat, kRR, kNN, true_and, and_true, if_true, if_false, if_pos, Nat.reduceAdd, Nat.reduceEqDiff, Nat.reduceLeDiff, Nat.reduceLT, reduceIte, Prod.mk.injEq, eq_self, false_and, and_false, reduceCtorEq, Nat.reduceSub, List.reverse_cons, List.reverse_nil, List.nil_append, List.cons_append, Option.toList_some, Option.toList_none, not_true_eq_false, not_false_eq_true]
      exact hh
  have chairsL : ∀ (a0 : Int64), fmix (rowF (tS σ)) (gmix (fun l a => fmix (rowF (tQ σ l)) (fmix (tLaneFact σ l) a 4) (tQ σ l).length) (gmix (fun c a => fmix (fun j => tZ σ j c) a 5) a0 (tC σ)) (tL σ)) (tS σ).length = tDigest σ → ∀ (m c : Nat), c + m = tC σ → KW X 116 [some (kR (some (7, 4, 0))), some (kL (gmix (fun c a => fmix (fun j => tZ σ j c) a 5) a0 c)), none, some (kI (nI c)), none] [] (km D0 G) (733 + 5 * c) (5929 + 25 * c) := by
    intro a0 h0 m
    induction m with
    | zero =>
      intro c hcm
      have hc : c = tC σ := by omega
      subst hc
      have hh := lanesL _ h0 (tL σ) 0 (by omega)
      rw [gmix_0] at hh
      refine kwX7_digest_116 hC hE ?_
      simp only [kbX7_digest_116, mX7_digest, kblk, kstp, kent, kpad, kget, kst1, kst2, kc2, cond_false, cond_true, kfv, kfit, kOkf, kputv, kputD, kputG, kcpy, kcat, kRR, kNN, true_and, and_true, if_true, if_false, if_pos, Nat.reduceAdd, Nat.reduceEqDiff, Nat.reduceLeDiff, Nat.reduceLT, reduceIte, Prod.mk.injEq, eq_self, false_and, and_false, reduceCtorEq, Nat.reduceSub, List.reverse_cons, List.reverse_nil, List.nil_append, List.cons_append, Option.toList_some, Option.toList_none, not_true_eq_false, not_false_eq_true, h7, t2]
      refine ⟨fun _ => ?_, fun w => absurd (nI_le (Nat.le_refl _) (by omega)) w⟩
      refine kwX7_digest_160 hC hE ?_
      simp only [kbX7_digest_160, mX7_digest, kblk, kstp, kent, kpad, kget, kst1, kst2, kc2, cond_false, cond_true, kfv, kfit, kOkf, kputv, kputD, kputG, kcpy, kcat, kRR, kNN, true_and, and_true, if_true, if_false, if_pos, Nat.reduceAdd, Nat.reduceEqDiff, Nat.reduceLeDiff, Nat.reduceLT, reduceIte, Prod.mk.injEq, eq_self, false_and, and_false, reduceCtorEq, Nat.reduceSub, List.reverse_cons, List.reverse_nil, List.nil_append, List.cons_append, Option.toList_some, Option.toList_none, not_true_eq_false, not_false_eq_true]
      exact KW.widen (by omega) (by omega) hh
    | succ m ih =>
      intro c hcm
      have hc : c < tC σ := by omega
      have hnext := ih (c + 1) (by omega)
      simp only [gmix] at hnext
      generalize gmix (fun c a => fmix (fun j => tZ σ j c) a 5) a0 c = acc at hnext
      have innerL : ∀ (m2 j : Nat), j + m2 = 5 → KW X 127 [some (kR (some (7, 4, 0))), some (kL (fmix (fun j => tZ σ j c) acc j)), none, some (kI (nI c)), some (kI (nI j))] [] (km D0 G) (733 + 5 * c + j) (5929 + 25 * c + 5 * j) := by
        intro m2
        induction m2 with
        | zero =>
          intro j hj
          have hj' : j = 5 := by omega
          subst hj'
          refine kwX7_digest_127 hC hE ?_
          simp only [kbX7_digest_127, mX7_digest, kblk, kstp, kent, kpad, kget, kst1, kst2, kc2, cond_false, cond_true, kfv, kfit, kOkf, kputv, kputD, kputG, kcpy, kcat, kRR, kNN, true_and, and_true, if_true, if_false, if_pos, Nat.reduceAdd, Nat.reduceEqDiff, Nat.reduceLeDiff, Nat.reduceLT, reduceIte, Prod.mk.injEq, eq_self, false_and, and_false, reduceCtorEq, Nat.reduceSub, List.reverse_cons, List.reverse_nil, List.nil_append, List.cons_append, Option.toList_some, Option.toList_none, not_true_eq_false, not_false_eq_true]
          refine ⟨fun _ => ?_, fun w => absurd (by decide) w⟩
          refine kwX7_digest_154 hC hE ?_
          simp only [kbX7_digest_154, mX7_digest, kblk, kstp, kent, kpad, kget, kst1, kst2, kc2, cond_false, cond_true, kfv, kfit, kOkf, kputv, kputD, kputG, kcpy, kcat, kRR, kNN, true_and, and_true, if_true, if_false, if_pos, Nat.reduceAdd, Nat.reduceEqDiff, Nat.reduceLeDiff, Nat.reduceLT, reduceIte, Prod.mk.injEq, eq_self, false_and, and_false, reduceCtorEq, Nat.reduceSub, List.reverse_cons, List.reverse_nil, List.nil_append, List.cons_append, Option.toList_some, Option.toList_none, not_true_eq_false, not_false_eq_true, nI_1]
          exact KW.widen (by omega) (by omega) (KW.le (by simp [kLE]) hnext)
        | succ m2 ih2 =>
          intro j hj
          refine kwX7_digest_127 hC hE ?_
          simp only [kbX7_digest_127, mX7_digest, kblk, kstp, kent, kpad, kget, kst1, kst2, kc2, cond_false, cond_true, kfv, kfit, kOkf, kputv, kputD, kputG, kcpy, kcat, kRR, kNN, true_and, and_true, if_true, if_false, if_pos, Nat.reduceAdd, Nat.reduceEqDiff, Nat.reduceLeDiff, Nat.reduceLT, reduceIte, Prod.mk.injEq, eq_self, false_and, and_false, reduceCtorEq, Nat.reduceSub, List.reverse_cons, List.reverse_nil, List.nil_append, List.cons_append, Option.toList_some, Option.toList_none, not_true_eq_false, not_false_eq_true]
          refine ⟨fun w => absurd w (nI_ge (a := j) (b := 5) (by omega) (by decide)), fun _ => ?_⟩
          refine kwX7_digest_133 hC hE ?_
          simp only [kbX7_digest_133, mX7_digest, kblk, kstp, kent, kpad, kget, kst1, kst2, kc2, cond_false, cond_true, kfv, kfit, kOkf, kputv, kputD, kputG, kcpy, kcat, kRR, kNN, true_and, and_true, if_true, if_false, if_pos, Nat.reduceAdd, Nat.reduceEqDiff, Nat.reduceLeDiff, Nat.reduceLT, reduceIte, Prod.mk.injEq, eq_self, false_and, and_false, reduceCtorEq, Nat.reduceSub, List.reverse_cons, List.reverse_nil, List.nil_append, List.cons_append, Option.toList_some, Option.toList_none, not_true_eq_false, not_false_eq_true]
          refine KW_callV hC (by decide +kernel) kl7_116 (by decide) ((m7_chairTold ht0 hm0 hw hc (show j < 5 by omega))) rfl rfl (Nat.le_of_ble_eq_true rfl) rfl h7 (by simp [kOkL, kOk, h7]) (by simp [kOkS, kOk]) (Nat.le_of_ble_eq_true rfl) (by omega) (by omega) ?_
          rintro v M' ⟨rfl, hsub⟩
          refine KW.sub hsub (fun i hi => by rw [hL0] at hi; exact hi) ?_
          refine kwX7_digest_145 hC hE ?_
          simp only [kbX7_digest_145, mX7_digest, kblk, kstp, kent, kpad, kget, kst1, kst2, kc2, cond_false, cond_true, kfv, kfit, kOkf, kputv, kputD, kputG, kcpy, kcat, kRR, kNN, true_and, and_true, if_true, if_false, if_pos, Nat.reduceAdd, Nat.reduceEqDiff, Nat.reduceLeDiff, Nat.reduceLT, reduceIte, Prod.mk.injEq, eq_self, false_and, and_false, reduceCtorEq, Nat.reduceSub, List.reverse_cons, List.reverse_nil, List.nil_append, List.cons_append, Option.toList_some, Option.toList_none, not_true_eq_false, not_false_eq_true, nI_1]
          have hh := ih2 (j + 1) (by omega)
          rw [fmix_s] at hh
          exact KW.widen (by omega) (by omega) hh
      have hh := innerL 5 0 (by omega)
      rw [fmix_0] at hh
      refine kwX7_digest_116 hC hE ?_
      simp only [kbX7_digest_116, mX7_digest, kblk, kstp, kent, kpad, kget, kst1, kst2, kc2, cond_false, cond_true, kfv, kfit, kOkf, kputv, kputD, kputG, kcpy, kcat, kRR, kNN, true_and, and_true, if_true, if_false, if_pos, Nat.reduceAdd, Nat.reduceEqDiff, Nat.reduceLeDiff, Nat.reduceLT, reduceIte, Prod.mk.injEq, eq_self, false_and, and_false, reduceCtorEq, Nat.reduceSub, List.reverse_cons, List.reverse_nil, List.nil_append, List.cons_append, Option.toList_some, Option.toList_none, not_true_eq_false, not_false_eq_true, h7, t2]
      refine ⟨fun w => absurd w (nI_ge hc (by omega)), fun _ => ?_⟩
      refine kwX7_digest_124 hC hE ?_
      simp only [kbX7_digest_124, mX7_digest, kblk, kstp, kent, kpad, kget, kst1, kst2, kc2, cond_false, cond_true, kfv, kfit, kOkf, kputv, kputD, kputG, kcpy, kcat, kRR, kNN, true_and, and_true, if_true, if_false, if_pos, Nat.reduceAdd, Nat.reduceEqDiff, Nat.reduceLeDiff, Nat.reduceLT, reduceIte, Prod.mk.injEq, eq_self, false_and, and_false, reduceCtorEq, Nat.reduceSub, List.reverse_cons, List.reverse_nil, List.nil_append, List.cons_append, Option.toList_some, Option.toList_none, not_true_eq_false, not_false_eq_true]
      exact hh
  have groupsL : ∀ (a0 : Int64), fmix (rowF (tS σ)) (gmix (fun l a => fmix (rowF (tQ σ l)) (fmix (tLaneFact σ l) a 4) (tQ σ l).length) (gmix (fun c a => fmix (fun j => tZ σ j c) a 5) (gmix (fun g a => fmix (fun j => tZ σ (10 + j) g) a 8) a0 (tG σ)) (tC σ)) (tL σ)) (tS σ).length = tDigest σ → ∀ (m g : Nat), g + m = tG σ → KW X 66 [some (kR (some (7, 4, 0))), some (kL (gmix (fun g a => fmix (fun j => tZ σ (10 + j) g) a 8) a0 g)), none, some (kI (nI g)), none] [] (km D0 G) (13 + 8 * g) (169 + 64 * g) := by
    intro a0 h0 m
    induction m with
    | zero =>
      intro g hgm
      have hg : g = tG σ := by omega
      subst hg
      have hh := chairsL _ h0 (tC σ) 0 (by omega)
      rw [gmix_0] at hh
      refine kwX7_digest_66 hC hE ?_
      simp only [kbX7_digest_66, mX7_digest, kblk, kstp, kent, kpad, kget, kst1, kst2, kc2, cond_false, cond_true, kfv, kfit, kOkf, kputv, kputD, kputG, kcpy, kcat, kRR, kNN, true_and, and_true, if_true, if_false, if_pos, Nat.reduceAdd, Nat.reduceEqDiff, Nat.reduceLeDiff, Nat.reduceLT, reduceIte, Prod.mk.injEq, eq_self, false_and, and_false, reduceCtorEq, Nat.reduceSub, List.reverse_cons, List.reverse_nil, List.nil_append, List.cons_append, Option.toList_some, Option.toList_none, not_true_eq_false, not_false_eq_true, h7, hx, q3]
      refine ⟨fun _ => ?_, fun w => absurd (nI_le (Nat.le_refl _) (by omega)) w⟩
      refine kwX7_digest_114 hC hE ?_
      simp only [kbX7_digest_114, mX7_digest, kblk, kstp, kent, kpad, kget, kst1, kst2, kc2, cond_false, cond_true, kfv, kfit, kOkf, kputv, kputD, kputG, kcpy, kcat, kRR, kNN, true_and, and_true, if_true, if_false, if_pos, Nat.reduceAdd, Nat.reduceEqDiff, Nat.reduceLeDiff, Nat.reduceLT, reduceIte, Prod.mk.injEq, eq_self, false_and, and_false, reduceCtorEq, Nat.reduceSub, List.reverse_cons, List.reverse_nil, List.nil_append, List.cons_append, Option.toList_some, Option.toList_none, not_true_eq_false, not_false_eq_true]
      exact KW.widen (by omega) (by omega) hh
    | succ m ih =>
      intro g hgm
      have hg : g < tG σ := by omega
      have hnext := ih (g + 1) (by omega)
      simp only [gmix] at hnext
      generalize gmix (fun g a => fmix (fun j => tZ σ (10 + j) g) a 8) a0 g = acc at hnext
      have innerL : ∀ (m2 j : Nat), j + m2 = 8 → KW X 80 [some (kR (some (7, 4, 0))), some (kL (fmix (fun j => tZ σ (10 + j) g) acc j)), none, some (kI (nI g)), some (kI (nI j))] [] (km D0 G) (13 + 8 * g + j) (169 + 64 * g + 8 * j) := by
        intro m2
        induction m2 with
        | zero =>
          intro j hj
          have hj' : j = 8 := by omega
          subst hj'
          refine kwX7_digest_80 hC hE ?_
          simp only [kbX7_digest_80, mX7_digest, kblk, kstp, kent, kpad, kget, kst1, kst2, kc2, cond_false, cond_true, kfv, kfit, kOkf, kputv, kputD, kputG, kcpy, kcat, kRR, kNN, true_and, and_true, if_true, if_false, if_pos, Nat.reduceAdd, Nat.reduceEqDiff, Nat.reduceLeDiff, Nat.reduceLT, reduceIte, Prod.mk.injEq, eq_self, false_and, and_false, reduceCtorEq, Nat.reduceSub, List.reverse_cons, List.reverse_nil, List.nil_append, List.cons_append, Option.toList_some, Option.toList_none, not_true_eq_false, not_false_eq_true]
          refine ⟨fun _ => ?_, fun w => absurd (by decide) w⟩
          refine kwX7_digest_108 hC hE ?_
          simp only [kbX7_digest_108, mX7_digest, kblk, kstp, kent, kpad, kget, kst1, kst2, kc2, cond_false, cond_true, kfv, kfit, kOkf, kputv, kputD, kputG, kcpy, kcat, kRR, kNN, true_and, and_true, if_true, if_false, if_pos, Nat.reduceAdd, Nat.reduceEqDiff, Nat.reduceLeDiff, Nat.reduceLT, reduceIte, Prod.mk.injEq, eq_self, false_and, and_false, reduceCtorEq, Nat.reduceSub, List.reverse_cons, List.reverse_nil, List.nil_append, List.cons_append, Option.toList_some, Option.toList_none, not_true_eq_false, not_false_eq_true, nI_1]
          exact KW.widen (by omega) (by omega) (KW.le (by simp [kLE]) hnext)
        | succ m2 ih2 =>
          intro j hj
          refine kwX7_digest_80 hC hE ?_
          simp only [kbX7_digest_80, mX7_digest, kblk, kstp, kent, kpad, kget, kst1, kst2, kc2, cond_false, cond_true, kfv, kfit, kOkf, kputv, kputD, kputG, kcpy, kcat, kRR, kNN, true_and, and_true, if_true, if_false, if_pos, Nat.reduceAdd, Nat.reduceEqDiff, Nat.reduceLeDiff, Nat.reduceLT, reduceIte, Prod.mk.injEq, eq_self, false_and, and_false, reduceCtorEq, Nat.reduceSub, List.reverse_cons, List.reverse_nil, List.nil_append, List.cons_append, Option.toList_some, Option.toList_none, not_true_eq_false, not_false_eq_true]
          refine ⟨fun w => absurd w (nI_ge (a := j) (b := 8) (by omega) (by decide)), fun _ => ?_⟩
          refine kwX7_digest_87 hC hE ?_
          simp only [kbX7_digest_87, mX7_digest, kblk, kstp, kent, kpad, kget, kst1, kst2, kc2, cond_false, cond_true, kfv, kfit, kOkf, kputv, kputD, kputG, kcpy, kcat, kRR, kNN, true_and, and_true, if_true, if_false, if_pos, Nat.reduceAdd, Nat.reduceEqDiff, Nat.reduceLeDiff, Nat.reduceLT, reduceIte, Prod.mk.injEq, eq_self, false_and, and_false, reduceCtorEq, Nat.reduceSub, List.reverse_cons, List.reverse_nil, List.nil_append, List.cons_append, Option.toList_some, Option.toList_none, not_true_eq_false, not_false_eq_true]
          refine KW_callV hC (by decide +kernel) kl7_110 (by decide) ((m7_groupTold hm0 hw hg (show j < 8 by omega))) rfl rfl (Nat.le_of_ble_eq_true rfl) rfl h7 (by simp [kOkL, kOk, h7]) (by simp [kOkS, kOk]) (Nat.le_of_ble_eq_true rfl) (by omega) (by omega) ?_
          rintro v M' ⟨rfl, hsub⟩
          refine KW.sub hsub (fun i hi => by rw [hL0] at hi; exact hi) ?_
          refine kwX7_digest_99 hC hE ?_
          simp only [kbX7_digest_99, mX7_digest, kblk, kstp, kent, kpad, kget, kst1, kst2, kc2, cond_false, cond_true, kfv, kfit, kOkf, kputv, kputD, kputG, kcpy, kcat, kRR, kNN, true_and, and_true, if_true, if_false, if_pos, Nat.reduceAdd, Nat.reduceEqDiff, Nat.reduceLeDiff, Nat.reduceLT, reduceIte, Prod.mk.injEq, eq_self, false_and, and_false, reduceCtorEq, Nat.reduceSub, List.reverse_cons, List.reverse_nil, List.nil_append, List.cons_append, Option.toList_some, Option.toList_none, not_true_eq_false, not_false_eq_true, nI_1]
          have hh := ih2 (j + 1) (by omega)
          rw [fmix_s] at hh
          exact KW.widen (by omega) (by omega) hh
      have hh := innerL 8 0 (by omega)
      rw [fmix_0] at hh
      refine kwX7_digest_66 hC hE ?_
      simp only [kbX7_digest_66, mX7_digest, kblk, kstp, kent, kpad, kget, kst1, kst2, kc2, cond_false, cond_true, kfv, kfit, kOkf, kputv, kputD, kputG, kcpy, kcat, kRR, kNN, true_and, and_true, if_true, if_false, if_pos, Nat.reduceAdd, Nat.reduceEqDiff, Nat.reduceLeDiff, Nat.reduceLT, reduceIte, Prod.mk.injEq, eq_self, false_and, and_false, reduceCtorEq, Nat.reduceSub, List.reverse_cons, List.reverse_nil, List.nil_append, List.cons_append, Option.toList_some, Option.toList_none, not_true_eq_false, not_false_eq_true, h7, hx, q3]
      refine ⟨fun w => absurd w (nI_ge hg (by omega)), fun _ => ?_⟩
      refine kwX7_digest_77 hC hE ?_
      simp only [kbX7_digest_77, mX7_digest, kblk, kstp, kent, kpad, kget, kst1, kst2, kc2, cond_false, cond_true, kfv, kfit, kOkf, kputv, kputD, kputG, kcpy, kcat, kRR, kNN, true_and, and_true, if_true, if_false, if_pos, Nat.reduceAdd, Nat.reduceEqDiff, Nat.reduceLeDiff, Nat.reduceLT, reduceIte, Prod.mk.injEq, eq_self, false_and, and_false, reduceCtorEq, Nat.reduceSub, List.reverse_cons, List.reverse_nil, List.nil_append, List.cons_append, Option.toList_some, Option.toList_none, not_true_eq_false, not_false_eq_true]
      exact hh
  have windL : ∀ (a0 : Int64), fmix (rowF (tS σ)) (gmix (fun l a => fmix (rowF (tQ σ l)) (fmix (tLaneFact σ l) a 4) (tQ σ l).length) (gmix (fun c a => fmix (fun j => tZ σ j c) a 5) (gmix (fun g a => fmix (fun j => tZ σ (10 + j) g) a 8) (fmix (tZ σ 50) a0 24) (tG σ)) (tC σ)) (tL σ)) (tS σ).length = tDigest σ → ∀ (m i : Nat), i + m = 24 → KW X 38 [some (kR (some (7, 4, 0))), some (kL (fmix (tZ σ 50) a0 i)), none, some (kI (nI i)), none] [] (km D0 G) 13 169 := by
    intro a0 h0 m
    induction m with
    | zero =>
      intro i him
      have hi : i = 24 := by omega
      have hh := groupsL _ h0 (tG σ) 0 (by omega)
      rw [gmix_0] at hh
      rw [← hi] at hh
      have h24 : ¬ ¬ (24 : Int32) ≤ nI i := fun w => w (by rw [hi]; decide)
      refine kwX7_digest_38 hC hE ?_
      simp only [kbX7_digest_38, mX7_digest, kblk, kstp, kent, kpad, kget, kst1, kst2, kc2, cond_false, cond_true, kfv, kfit, kOkf, kputv, kputD, kputG, kcpy, kcat, kRR, kNN, true_and, and_true, if_true, if_false, if_pos, Nat.reduceAdd, Nat.reduceEqDiff, Nat.reduceLeDiff, Nat.reduceLT, reduceIte, Prod.mk.injEq, eq_self, false_and, and_false, reduceCtorEq, Nat.reduceSub, List.reverse_cons, List.reverse_nil, List.nil_append, List.cons_append, Option.toList_some, Option.toList_none, not_true_eq_false, not_false_eq_true]
      refine ⟨fun _ => ?_, fun w => absurd w h24⟩
      refine kwX7_digest_64 hC hE ?_
      simp only [kbX7_digest_64, mX7_digest, kblk, kstp, kent, kpad, kget, kst1, kst2, kc2, cond_false, cond_true, kfv, kfit, kOkf, kputv, kputD, kputG, kcpy, kcat, kRR, kNN, true_and, and_true, if_true, if_false, if_pos, Nat.reduceAdd, Nat.reduceEqDiff, Nat.reduceLeDiff, Nat.reduceLT, reduceIte, Prod.mk.injEq, eq_self, false_and, and_false, reduceCtorEq, Nat.reduceSub, List.reverse_cons, List.reverse_nil, List.nil_append, List.cons_append, Option.toList_some, Option.toList_none, not_true_eq_false, not_false_eq_true]
      exact hh
    | succ m ih =>
      intro i him
      have hi : i < 24 := by omega
      have hv := ht0.2.2.2 i hi
      refine kwX7_digest_38 hC hE ?_
      simp only [kbX7_digest_38, mX7_digest, kblk, kstp, kent, kpad, kget, kst1, kst2, kc2, cond_false, cond_true, kfv, kfit, kOkf, kputv, kputD, kputG, kcpy, kcat, kRR, kNN, true_and, and_true, if_true, if_false, if_pos, Nat.reduceAdd, Nat.reduceEqDiff, Nat.reduceLeDiff, Nat.reduceLT, reduceIte, Prod.mk.injEq, eq_self, false_and, and_false, reduceCtorEq, Nat.reduceSub, List.reverse_cons, List.reverse_nil, List.nil_append, List.cons_append, Option.toList_some, Option.toList_none, not_true_eq_false, not_false_eq_true]
      refine ⟨fun w => absurd w (nI_ge (a := i) (b := 24) (by omega) (by decide)), fun _ => ?_⟩
      refine kwX7_digest_44 hC hE ?_
      simp only [kbX7_digest_44, mX7_digest, kblk, kstp, kent, kpad, kget, kst1, kst2, kc2, cond_false, cond_true, kfv, kfit, kOkf, kputv, kputD, kputG, kcpy, kcat, kRR, kNN, true_and, and_true, if_true, if_false, if_pos, Nat.reduceAdd, Nat.reduceEqDiff, Nat.reduceLeDiff, Nat.reduceLT, reduceIte, Prod.mk.injEq, eq_self, false_and, and_false, reduceCtorEq, Nat.reduceSub, List.reverse_cons, List.reverse_nil, List.nil_append, List.cons_append, Option.toList_some, Option.toList_none, not_true_eq_false, not_false_eq_true, h7, l42, n42, nI_clamp (show i < 2 ^ 31 by omega), hv, nI_1]
      refine ⟨vp_in_nI hi (by omega), ?_⟩
      have hh := ih (i + 1) (by omega)
      rw [fmix_s] at hh
      exact hh
  have countL : ∀ (a0 : Int64), fmix (rowF (tS σ)) (gmix (fun l a => fmix (rowF (tQ σ l)) (fmix (tLaneFact σ l) a 4) (tQ σ l).length) (gmix (fun c a => fmix (fun j => tZ σ j c) a 5) (gmix (fun g a => fmix (fun j => tZ σ (10 + j) g) a 8) (fmix (tZ σ 50) (fmix (tFact σ) a0 13) 24) (tG σ)) (tC σ)) (tL σ)) (tS σ).length = tDigest σ → ∀ (m i : Nat), i + m = 13 → KW X 11 [some (kR (some (7, 4, 0))), some (kL (fmix (tFact σ) a0 i)), none, some (kI (nI i)), none] [] (km D0 G) i (13 * i) := by
    intro a0 h0 m
    induction m with
    | zero =>
      intro i him
      have hi : i = 13 := by omega
      have hh := windL _ h0 24 0 (by omega)
      rw [fmix_0] at hh
      rw [← hi] at hh
      have h13 : ¬ ¬ (13 : Int32) ≤ nI i := fun w => w (by rw [hi]; decide)
      refine kwX7_digest_11 hC hE ?_
      simp only [kbX7_digest_11, mX7_digest, kblk, kstp, kent, kpad, kget, kst1, kst2, kc2, cond_false, cond_true, kfv, kfit, kOkf, kputv, kputD, kputG, kcpy, kcat, kRR, kNN, true_and, and_true, if_true, if_false, if_pos, Nat.reduceAdd, Nat.reduceEqDiff, Nat.reduceLeDiff, Nat.reduceLT, reduceIte, Prod.mk.injEq, eq_self, false_and, and_false, reduceCtorEq, Nat.reduceSub, List.reverse_cons, List.reverse_nil, List.nil_append, List.cons_append, Option.toList_some, Option.toList_none, not_true_eq_false, not_false_eq_true]
      refine ⟨fun _ => ?_, fun w => absurd w h13⟩
      refine kwX7_digest_36 hC hE ?_
      simp only [kbX7_digest_36, mX7_digest, kblk, kstp, kent, kpad, kget, kst1, kst2, kc2, cond_false, cond_true, kfv, kfit, kOkf, kputv, kputD, kputG, kcpy, kcat, kRR, kNN, true_and, and_true, if_true, if_false, if_pos, Nat.reduceAdd, Nat.reduceEqDiff, Nat.reduceLeDiff, Nat.reduceLT, reduceIte, Prod.mk.injEq, eq_self, false_and, and_false, reduceCtorEq, Nat.reduceSub, List.reverse_cons, List.reverse_nil, List.nil_append, List.cons_append, Option.toList_some, Option.toList_none, not_true_eq_false, not_false_eq_true]
      exact KW.widen (by omega) (by omega) hh
    | succ m ih =>
      intro i him
      have hi : i < 13 := by omega
      refine kwX7_digest_11 hC hE ?_
      simp only [kbX7_digest_11, mX7_digest, kblk, kstp, kent, kpad, kget, kst1, kst2, kc2, cond_false, cond_true, kfv, kfit, kOkf, kputv, kputD, kputG, kcpy, kcat, kRR, kNN, true_and, and_true, if_true, if_false, if_pos, Nat.reduceAdd, Nat.reduceEqDiff, Nat.reduceLeDiff, Nat.reduceLT, reduceIte, Prod.mk.injEq, eq_self, false_and, and_false, reduceCtorEq, Nat.reduceSub, List.reverse_cons, List.reverse_nil, List.nil_append, List.cons_append, Option.toList_some, Option.toList_none, not_true_eq_false, not_false_eq_true]
      refine ⟨fun w => absurd w (nI_ge (a := i) (b := 13) (by omega) (by decide)), fun _ => ?_⟩
      refine kwX7_digest_17 hC hE ?_
      simp only [kbX7_digest_17, mX7_digest, kblk, kstp, kent, kpad, kget, kst1, kst2, kc2, cond_false, cond_true, kfv, kfit, kOkf, kputv, kputD, kputG, kcpy, kcat, kRR, kNN, true_and, and_true, if_true, if_false, if_pos, Nat.reduceAdd, Nat.reduceEqDiff, Nat.reduceLeDiff, Nat.reduceLT, reduceIte, Prod.mk.injEq, eq_self, false_and, and_false, reduceCtorEq, Nat.reduceSub, List.reverse_cons, List.reverse_nil, List.nil_append, List.cons_append, Option.toList_some, Option.toList_none, not_true_eq_false, not_false_eq_true]
      refine KW_callV hC (by decide +kernel) kl7_149 (by decide) ((m7_counted ht0 hm0 hw.1.1 hi)) rfl rfl (Nat.le_of_ble_eq_true rfl) rfl h7 (by simp [kOkL, kOk, h7]) (by simp [kOkS, kOk]) (Nat.le_of_ble_eq_true rfl) (by omega) (by omega) ?_
      rintro v M' ⟨rfl, hsub⟩
      refine KW.sub hsub (fun i hi => by rw [hL0] at hi; exact hi) ?_
      refine kwX7_digest_27 hC hE ?_
      simp only [kbX7_digest_27, mX7_digest, kblk, kstp, kent, kpad, kget, kst1, kst2, kc2, cond_false, cond_true, kfv, kfit, kOkf, kputv, kputD, kputG, kcpy, kcat, kRR, kNN, true_and, and_true, if_true, if_false, if_pos, Nat.reduceAdd, Nat.reduceEqDiff, Nat.reduceLeDiff, Nat.reduceLT, reduceIte, Prod.mk.injEq, eq_self, false_and, and_false, reduceCtorEq, Nat.reduceSub, List.reverse_cons, List.reverse_nil, List.nil_append, List.cons_append, Option.toList_some, Option.toList_none, not_true_eq_false, not_false_eq_true, nI_1]
      have hh := ih (i + 1) (by omega)
      rw [fmix_s] at hh
      exact KW.widen (by omega) (by omega) hh
  have hh := countL 677 rfl 13 0 (by omega)
  rw [fmix_0] at hh
  refine kwX7_digest_0 hC hE ?_
  simp only [kbX7_digest_0, mX7_digest, kblk, kstp, kent, kpad, kget, kst1, kst2, kc2, cond_false, cond_true, kfv, kfit, kOkf, kputv, kputD, kputG, kcpy, kcat, kRR, kNN, true_and, and_true, if_true, if_false, if_pos, Nat.reduceAdd, Nat.reduceEqDiff, Nat.reduceLeDiff, Nat.reduceLT, reduceIte, Prod.mk.injEq, eq_self, false_and, and_false, reduceCtorEq, Nat.reduceSub, List.reverse_cons, List.reverse_nil, List.nil_append, List.cons_append, Option.toList_some, Option.toList_none, not_true_eq_false, not_false_eq_true, h7]
  rw [hDD]
  exact hh
end MDIGEST

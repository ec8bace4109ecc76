/-! The reference's public methods: groups. -/
section M7C
variable {D : KI → Nat → Int32} {G : KI → Nat → Int64} {P : Nat} {σ : KT}
theorem qOK_take (h : qOK σ) {g : Nat} : qOK (takeOut σ g) := by
  intro l hl
  unfold takeOut
  split
  · exact h l hl
  · show (qup (tQ σ) _ _ l).length ≤ 91
    by_cases hll : l = (tZ σ 13 g).toNatClampNeg
    · rw [hll, qup_eq]
      exact Nat.le_trans (List.length_filter_le _ _) (h _ (by rw [← hll]; exact hl))
    · rw [qup_ne hll]; exact h l hl
/-- after a change of the state alone, with groups made -/
theorem mPub_to2 (ht : mTop D σ) {σ' : KT} (hC : tC σ' = tC σ) (hL : tL σ' = tL σ) (h0 : ∀ c, tZ σ' 0 c = tZ σ 0 c) (h21 : ∀ l, tZ σ' 21 l = tZ σ 21 l) (h50 : ∀ t, tZ σ' 50 t = tZ σ 50 t) (h38 : tZ σ' 38 0 = tZ σ 38 0) {D' : KI → Nat → Int32} (h3 : mSt 2 D' σ') (ho : kOff 2 D' (kput D (7, 4, 0) 0 0)) : mPub D G σ' 0 (km D' G) :=
  mPub.of (thr_2 ho) (((mTop_thr ht 0).off (P := 2) (Or.inl rfl) ho kSame.refl).congr hC hL h0 h21 h50 h38) h3 (off_2 ho)
theorem mkGroup_f {l : Nat} {a b : Int32} {f j : Nat} (hf : f < 10 ∨ 17 < f) : tZ (mkGroup σ l a b) f j = tZ σ f j := by
  show zup (tZ (startT σ (tG σ) a b (tZ σ 41 0))) 13 (tG σ) (nI l) f j = _
  rw [zup_ne (by omega)]
  simp only [startT, tZ_tset, tQ_tset, tS_tset, tC_tset, tL_tset, tG_tset, tZ_tsetQ, tQ_tsetQ, tS_tsetQ, tC_tsetQ, tL_tsetQ, tG_tsetQ, tZ_tsetS, tQ_tsetS, tS_tsetS, tC_tsetS, tL_tsetS, tG_tsetS, tZ_tMod, tQ_tMod, tS_tMod, tC_tMod, tL_tMod, tG_tMod, tZ_tcnt, tQ_tcnt, tS_tcnt, tC_tcnt, tL_tcnt, tG_tcnt]
  rw [zup_ne (by omega), zup_ne (by omega), zup_ne (by omega), zup_ne (by omega), zup_ne (by omega), zup_ne (by omega), zup_ne (by omega), zup_ne (by omega)]
theorem m7_join (ht : mTop D σ) (hm : mSt 2 D σ) (hs : kS σ) (hq : qOK σ) (hG : tG σ ≤ 90) (hbool : ∀ l, l < tL σ → tZ σ 21 l = 0 ∨ tZ σ 21 l = 1) (c a b : Int32) : SpQ mX7_join 0 0 [kR (some (7, 4, 0)), kI c, kI a, kI b] (km D G) (fun v M' => (∃ l, l < tL σ ∧ c = nI l ∧ (1 ≤ a ∧ a ≤ 6) ∧ (1 ≤ b ∧ b ≤ 200) ∧ tZ σ 21 l = 0 ∧ tG σ < 90 ∧ v = some (kI (nI (tG σ))) ∧ mPub D G (mkGroup σ l a b) 0 M') ∨ (¬ (0 ≤ c ∧ c < nI (tL σ)) ∧ v = some (kI 0) ∧ mPub D G σ 1 M') ∨ (∃ l, l < tL σ ∧ c = nI l ∧ ((¬ ((1 ≤ a ∧ a ≤ 6) ∧ 1 ≤ b ∧ b ≤ 200) ∧ v = some (kI 0) ∧ mPub D G σ 2 M') ∨ (((1 ≤ a ∧ a ≤ 6) ∧ 1 ≤ b ∧ b ≤ 200) ∧ ¬ (tZ σ 21 l = 0 ∧ tG σ < 90) ∧ v = some (kI 0) ∧ mPub D G σ 3 M')))) := by
  refine SpQ_of (own := 7) (ini := false) (by decide +kernel) rfl (by decide) (Nat.le_of_ble_eq_true rfl) ?_
  intro X hC hE hL0
  have h7 := mLive7
  have hx := mLive (P := 2) (Or.inl rfl)
  have ht0 := mTop_thr ht 0
  have hm0 := mSt_7 (Or.inl rfl) hm 0 0
  have hL := hs.1.2.1
  have l41 := mLive4 (k := 1) (by decide)
  have n41 : kN8 4 1 = 4 := rfl
  have q3 : kput D (7, 4, 0) 0 0 (6, 2, 0) 3 = nI (tG σ) := hm0.1.2.2.2.1
  refine kwX7_join_0 hC hE ?_
  simp only [kbX7_join_0, mX7_join, kblk, kstp, kent, kpad, kget, kst1, kst2, kc2, cond_false, cond_true, kfv, kfit, kOkf, kputv, kputD, kputG, kcpy, kcat, kRR, kNN, true_and, and_true, if_true, if_false, if_pos, Nat.reduceAdd, Nat.reduceEqDiff, Nat.reduceLeDiff, Nat.reduceLT, reduceIte, Prod.mk.injEq, eq_self, false_and, and_false, reduceCtorEq, Nat.reduceSub, List.reverse_cons, List.reverse_nil, List.nil_append, List.cons_append, Option.toList_some, Option.toList_none, not_true_eq_false, not_false_eq_true, h7]
  refine KW_callV hC (by decide +kernel) kl7_71 (by decide) ((m7_isLane ht0 hL c)) rfl rfl (Nat.le_of_ble_eq_true rfl) rfl h7 (by simp [kOkL, kOk, h7]) (by simp [kOkS]) (Nat.le_of_ble_eq_true rfl) (Nat.le_of_ble_eq_true rfl) (Nat.le_of_ble_eq_true rfl) ?_
  rintro v M' ⟨rfl, rfl⟩
  refine kwX7_join_10 hC hE ?_
  simp only [kbX7_join_10, mX7_join, kblk, kstp, kent, kpad, kget, kst1, kst2, kc2, cond_false, cond_true, kfv, kfit, kOkf, kputv, kputD, kputG, kcpy, kcat, kRR, kNN, true_and, and_true, if_true, if_false, if_pos, Nat.reduceAdd, Nat.reduceEqDiff, Nat.reduceLeDiff, Nat.reduceLT, reduceIte, Prod.mk.injEq, eq_self, false_and, and_false, reduceCtorEq, Nat.reduceSub, List.reverse_cons, List.reverse_nil, List.nil_append, List.cons_append, Option.toList_some, Option.toList_none, not_true_eq_false, not_false_eq_true]
  refine ⟨fun h => ?_, fun h => ?_⟩
  · have hc : 0 ≤ c ∧ c < nI (tL σ) := Classical.byContradiction fun z => h (if_neg z)
    obtain ⟨l, hl, rfl⟩ := in_range (show tL σ < 2 ^ 31 by omega) hc
    have hcl := nI_clamp (show l < 2 ^ 31 by omega)
    have q21 : kput D (7, 4, 0) 0 0 (8, 4, 1) l = tZ σ 21 l := ht0.2.2.1 l (by omega)
    have bad : ¬ ((1 ≤ a ∧ a ≤ 6) ∧ 1 ≤ b ∧ b ≤ 200) → KW X 40 [some (kR (some (7, 4, 0))), some (kI (nI l)), some (kI a), some (kI b)] [] (km (kput D (7, 4, 0) 0 0) G) 0 0 := by
      intro hn
      refine kwX7_join_40 hC hE ?_
      simp only [kbX7_join_40, mX7_join, kblk, kstp, kent, kpad, kget, kst1, kst2, kc2, cond_false, cond_true, kfv, kfit, kOkf, kputv, kputD, kputG, kcpy, kcat, kRR, kNN, true_and, and_true, if_true, if_false, if_pos, Nat.reduceAdd, Nat.reduceEqDiff, Nat.reduceLeDiff, Nat.reduceLT, reduceIte, Prod.mk.injEq, eq_self, false_and, and_false, reduceCtorEq, Nat.reduceSub, List.reverse_cons, List.reverse_nil, List.nil_append, List.cons_append, Option.toList_some, Option.toList_none, not_true_eq_false, not_false_eq_true]
      refine KW_callV hC (by decide +kernel) kl7_48 (by decide) ((m7_no 2)) rfl rfl (Nat.le_of_ble_eq_true rfl) rfl h7 (by simp [kOkL, kOk, h7]) (by simp [kOkS]) (Nat.le_of_ble_eq_true rfl) (Nat.le_of_ble_eq_true rfl) (Nat.le_of_ble_eq_true rfl) ?_
      rintro v M' ⟨rfl, rfl⟩
      refine kwX7_join_45 hC hE ?_
      simp only [kbX7_join_45, mX7_join, kblk, kstp, kent, kpad, kget, kst1, kst2, kc2, cond_false, cond_true, kfv, kfit, kOkf, kputv, kputD, kputG, kcpy, kcat, kRR, kNN, true_and, and_true, if_true, if_false, if_pos, Nat.reduceAdd, Nat.reduceEqDiff, Nat.reduceLeDiff, Nat.reduceLT, reduceIte, Prod.mk.injEq, eq_self, false_and, and_false, reduceCtorEq, Nat.reduceSub, List.reverse_cons, List.reverse_nil, List.nil_append, List.cons_append, Option.toList_some, Option.toList_none, not_true_eq_false, not_false_eq_true]
      exact ⟨Or.inr (Or.inr ⟨l, hl, rfl, Or.inl ⟨hn, rfl, mPub_no ht hm 2⟩⟩), trivial, Nat.le_refl _, Nat.le_refl _⟩
    refine kwX7_join_19 hC hE ?_
    simp only [kbX7_join_19, mX7_join, kblk, kstp, kent, kpad, kget, kst1, kst2, kc2, cond_false, cond_true, kfv, kfit, kOkf, kputv, kputD, kputG, kcpy, kcat, kRR, kNN, true_and, and_true, if_true, if_false, if_pos, Nat.reduceAdd, Nat.reduceEqDiff, Nat.reduceLeDiff, Nat.reduceLT, reduceIte, Prod.mk.injEq, eq_self, false_and, and_false, reduceCtorEq, Nat.reduceSub, List.reverse_cons, List.reverse_nil, List.nil_append, List.cons_append, Option.toList_some, Option.toList_none, not_true_eq_false, not_false_eq_true]
    refine KW_callS hC (by decide +kernel) kl7_41 (by decide) ((m7_isIn (km (kput D (7, 4, 0) 0 0) G) a 1 6)) rfl rfl (by simp [kOkL, kOk, h7]) (by simp [kOkS]) (Nat.le_of_ble_eq_true rfl) (Nat.le_of_ble_eq_true rfl) (Nat.le_of_ble_eq_true rfl) ?_
    rintro v M' ⟨rfl, rfl⟩
    refine kwX7_join_26 hC hE ?_
    simp only [kbX7_join_26, mX7_join, kblk, kstp, kent, kpad, kget, kst1, kst2, kc2, cond_false, cond_true, kfv, kfit, kOkf, kputv, kputD, kputG, kcpy, kcat, kRR, kNN, true_and, and_true, if_true, if_false, if_pos, Nat.reduceAdd, Nat.reduceEqDiff, Nat.reduceLeDiff, Nat.reduceLT, reduceIte, Prod.mk.injEq, eq_self, false_and, and_false, reduceCtorEq, Nat.reduceSub, List.reverse_cons, List.reverse_nil, List.nil_append, List.cons_append, Option.toList_some, Option.toList_none, not_true_eq_false, not_false_eq_true]
    refine ⟨fun h2 => bad (fun z => by rw [if_pos z.1] at h2; exact absurd h2 (by decide)), fun h2 => ?_⟩
    have ha : 1 ≤ a ∧ a ≤ 6 := Classical.byContradiction fun z => h2 (if_neg z)
    refine kwX7_join_29 hC hE ?_
    simp only [kbX7_join_29, mX7_join, kblk, kstp, kent, kpad, kget, kst1, kst2, kc2, cond_false, cond_true, kfv, kfit, kOkf, kputv, kputD, kputG, kcpy, kcat, kRR, kNN, true_and, and_true, if_true, if_false, if_pos, Nat.reduceAdd, Nat.reduceEqDiff, Nat.reduceLeDiff, Nat.reduceLT, reduceIte, Prod.mk.injEq, eq_self, false_and, and_false, reduceCtorEq, Nat.reduceSub, List.reverse_cons, List.reverse_nil, List.nil_append, List.cons_append, Option.toList_some, Option.toList_none, not_true_eq_false, not_false_eq_true]
    refine KW_callS hC (by decide +kernel) kl7_41 (by decide) ((m7_isIn (km (kput D (7, 4, 0) 0 0) G) b 1 200)) rfl rfl (by simp [kOkL, kOk, h7]) (by simp [kOkS]) (Nat.le_of_ble_eq_true rfl) (Nat.le_of_ble_eq_true rfl) (Nat.le_of_ble_eq_true rfl) ?_
    rintro v M' ⟨rfl, rfl⟩
    refine kwX7_join_37 hC hE ?_
    simp only [kbX7_join_37, mX7_join, kblk, kstp, kent, kpad, kget, kst1, kst2, kc2, cond_false, cond_true, kfv, kfit, kOkf, kputv, kputD, kputG, kcpy, kcat, kRR, kNN, true_and, and_true, if_true, if_false, if_pos, Nat.reduceAdd, Nat.reduceEqDiff, Nat.reduceLeDiff, Nat.reduceLT, reduceIte, Prod.mk.injEq, eq_self, false_and, and_false, reduceCtorEq, Nat.reduceSub, List.reverse_cons, List.reverse_nil, List.nil_append, List.cons_append, Option.toList_some, Option.toList_none, not_true_eq_false, not_false_eq_true]
    refine ⟨fun h3 => ?_, fun h3 => bad (fun z => by rw [if_pos z.2] at h3; exact absurd h3 (by decide))⟩
    have hb : 1 ≤ b ∧ b ≤ 200 := Classical.byContradiction fun z => h3 (if_neg z)
    have shut : ¬ (tZ σ 21 l = 0 ∧ tG σ < 90) → KW X 68 [some (kR (some (7, 4, 0))), some (kI (nI l)), some (kI a), some (kI b)] [] (km (kput D (7, 4, 0) 0 0) G) 0 0 := by
      intro hn
      refine kwX7_join_68 hC hE ?_
      simp only [kbX7_join_68, mX7_join, kblk, kstp, kent, kpad, kget, kst1, kst2, kc2, cond_false, cond_true, kfv, kfit, kOkf, kputv, kputD, kputG, kcpy, kcat, kRR, kNN, true_and, and_true, if_true, if_false, if_pos, Nat.reduceAdd, Nat.reduceEqDiff, Nat.reduceLeDiff, Nat.reduceLT, reduceIte, Prod.mk.injEq, eq_self, false_and, and_false, reduceCtorEq, Nat.reduceSub, List.reverse_cons, List.reverse_nil, List.nil_append, List.cons_append, Option.toList_some, Option.toList_none, not_true_eq_false, not_false_eq_true]
      refine KW_callV hC (by decide +kernel) kl7_48 (by decide) ((m7_no 3)) rfl rfl (Nat.le_of_ble_eq_true rfl) rfl h7 (by simp [kOkL, kOk, h7]) (by simp [kOkS]) (Nat.le_of_ble_eq_true rfl) (Nat.le_of_ble_eq_true rfl) (Nat.le_of_ble_eq_true rfl) ?_
      rintro v M' ⟨rfl, rfl⟩
      refine kwX7_join_73 hC hE ?_
      simp only [kbX7_join_73, mX7_join, kblk, kstp, kent, kpad, kget, kst1, kst2, kc2, cond_false, cond_true, kfv, kfit, kOkf, kputv, kputD, kputG, kcpy, kcat, kRR, kNN, true_and, and_true, if_true, if_false, if_pos, Nat.reduceAdd, Nat.reduceEqDiff, Nat.reduceLeDiff, Nat.reduceLT, reduceIte, Prod.mk.injEq, eq_self, false_and, and_false, reduceCtorEq, Nat.reduceSub, List.reverse_cons, List.reverse_nil, List.nil_append, List.cons_append, Option.toList_some, Option.toList_none, not_true_eq_false, not_false_eq_true]
      refine kwX7_join_86 hC hE ?_
      simp only [kbX7_join_86, mX7_join, kblk, kstp, kent, kpad, kget, kst1, kst2, kc2, cond_false, cond_true, kfv, kfit, kOkf, kputv, kputD, kputG, kcpy, kcat, kRR, kNN, true_and, and_true, if_true, if_false, if_pos, Nat.reduceAdd, Nat.reduceEqDiff, Nat.reduceLeDiff, Nat.reduceLT, reduceIte, Prod.mk.injEq, eq_self, false_and, and_false, reduceCtorEq, Nat.reduceSub, List.reverse_cons, List.reverse_nil, List.nil_append, List.cons_append, Option.toList_some, Option.toList_none, not_true_eq_false, not_false_eq_true]
      exact ⟨Or.inr (Or.inr ⟨l, hl, rfl, Or.inr ⟨⟨ha, hb⟩, hn, rfl, mPub_no ht hm 3⟩⟩), trivial, Nat.le_refl _, Nat.le_refl _⟩
    refine kwX7_join_46 hC hE ?_
    simp only [kbX7_join_46, mX7_join, kblk, kstp, kent, kpad, kget, kst1, kst2, kc2, cond_false, cond_true, kfv, kfit, kOkf, kputv, kputD, kputG, kcpy, kcat, kRR, kNN, true_and, and_true, if_true, if_false, if_pos, Nat.reduceAdd, Nat.reduceEqDiff, Nat.reduceLeDiff, Nat.reduceLT, reduceIte, Prod.mk.injEq, eq_self, false_and, and_false, reduceCtorEq, Nat.reduceSub, List.reverse_cons, List.reverse_nil, List.nil_append, List.cons_append, Option.toList_some, Option.toList_none, not_true_eq_false, not_false_eq_true, h7, l41, n41, hcl, q21]
    refine ⟨vp_in_nI (show l < 4 by omega) (by omega), fun h4 => shut (fun z => by rw [z.1] at h4; exact absurd h4 (by decide)), fun h4 => ?_⟩
    have h0 : tZ σ 21 l = 0 := (hbool l hl).resolve_right h4
    refine kwX7_join_56 hC hE ?_
    simp only [kbX7_join_56, mX7_join, kblk, kstp, kent, kpad, kget, kst1, kst2, kc2, cond_false, cond_true, kfv, kfit, kOkf, kputv, kputD, kputG, kcpy, kcat, kRR, kNN, true_and, and_true, if_true, if_false, if_pos, Nat.reduceAdd, Nat.reduceEqDiff, Nat.reduceLeDiff, Nat.reduceLT, reduceIte, Prod.mk.injEq, eq_self, false_and, and_false, reduceCtorEq, Nat.reduceSub, List.reverse_cons, List.reverse_nil, List.nil_append, List.cons_append, Option.toList_some, Option.toList_none, not_true_eq_false, not_false_eq_true, h7, hx, q3]
    refine ⟨fun h5 => ?_, fun h5 => shut (fun z => ?_)⟩
    · have hlt : tG σ < 90 := by
        have : tG σ ≠ 90 := fun z => h5 (by rw [z]; rfl)
        omega
      refine kwX7_join_76 hC hE ?_
      simp only [kbX7_join_76, mX7_join, kblk, kstp, kent, kpad, kget, kst1, kst2, kc2, cond_false, cond_true, kfv, kfit, kOkf, kputv, kputD, kputG, kcpy, kcat, kRR, kNN, true_and, and_true, if_true, if_false, if_pos, Nat.reduceAdd, Nat.reduceEqDiff, Nat.reduceLeDiff, Nat.reduceLT, reduceIte, Prod.mk.injEq, eq_self, false_and, and_false, reduceCtorEq, Nat.reduceSub, List.reverse_cons, List.reverse_nil, List.nil_append, List.cons_append, Option.toList_some, Option.toList_none, not_true_eq_false, not_false_eq_true, h7]
      refine KW_callV hC (by decide +kernel) kl7_75 (by decide) ((m_join (Or.inl rfl) hm0 hs hq (show tG σ < 91 by omega) hl a b)) rfl rfl (Nat.le_of_ble_eq_true rfl) rfl hx (by simp [kOkL, kOk, h7, hx]) (by simp [kOkS]) (Nat.le_of_ble_eq_true rfl) (Nat.le_of_ble_eq_true rfl) (Nat.le_of_ble_eq_true rfl) ?_
      rintro v M' ⟨rfl, D', rfl, hm', ho⟩
      refine kwX7_join_86 hC hE ?_
      simp only [kbX7_join_86, mX7_join, kblk, kstp, kent, kpad, kget, kst1, kst2, kc2, cond_false, cond_true, kfv, kfit, kOkf, kputv, kputD, kputG, kcpy, kcat, kRR, kNN, true_and, and_true, if_true, if_false, if_pos, Nat.reduceAdd, Nat.reduceEqDiff, Nat.reduceLeDiff, Nat.reduceLT, reduceIte, Prod.mk.injEq, eq_self, false_and, and_false, reduceCtorEq, Nat.reduceSub, List.reverse_cons, List.reverse_nil, List.nil_append, List.cons_append, Option.toList_some, Option.toList_none, not_true_eq_false, not_false_eq_true]
      exact ⟨Or.inl ⟨l, hl, rfl, ha, hb, h0, hlt, rfl, mPub_to2 (σ' := mkGroup σ l a b) ht rfl rfl (fun c => mkGroup_f (by decide)) (fun c => mkGroup_f (by decide)) (fun c => mkGroup_f (by decide)) (mkGroup_f (by decide)) hm' ho⟩, trivial, Nat.le_refl _, Nat.le_refl _⟩
    · have := (nI_eq (b := 90) (by omega) (by decide)).mp h5
      omega
  · have hc : ¬ (0 ≤ c ∧ c < nI (tL σ)) := fun z => by rw [if_pos z] at h; exact absurd h (by decide)
    refine kwX7_join_13 hC hE ?_
    simp only [kbX7_join_13, mX7_join, kblk, kstp, kent, kpad, kget, kst1, kst2, kc2, cond_false, cond_true, kfv, kfit, kOkf, kputv, kputD, kputG, kcpy, kcat, kRR, kNN, true_and, and_true, if_true, if_false, if_pos, Nat.reduceAdd, Nat.reduceEqDiff, Nat.reduceLeDiff, Nat.reduceLT, reduceIte, Prod.mk.injEq, eq_self, false_and, and_false, reduceCtorEq, Nat.reduceSub, List.reverse_cons, List.reverse_nil, List.nil_append, List.cons_append, Option.toList_some, Option.toList_none, not_true_eq_false, not_false_eq_true]
    refine KW_callV hC (by decide +kernel) kl7_48 (by decide) ((m7_no 1)) rfl rfl (Nat.le_of_ble_eq_true rfl) rfl h7 (by simp [kOkL, kOk, h7]) (by simp [kOkS]) (Nat.le_of_ble_eq_true rfl) (Nat.le_of_ble_eq_true rfl) (Nat.le_of_ble_eq_true rfl) ?_
    rintro v M' ⟨rfl, rfl⟩
    refine kwX7_join_18 hC hE ?_
    simp only [kbX7_join_18, mX7_join, kblk, kstp, kent, kpad, kget, kst1, kst2, kc2, cond_false, cond_true, kfv, kfit, kOkf, kputv, kputD, kputG, kcpy, kcat, kRR, kNN, true_and, and_true, if_true, if_false, if_pos, Nat.reduceAdd, Nat.reduceEqDiff, Nat.reduceLeDiff, Nat.reduceLT, reduceIte, Prod.mk.injEq, eq_self, false_and, and_false, reduceCtorEq, Nat.reduceSub, List.reverse_cons, List.reverse_nil, List.nil_append, List.cons_append, Option.toList_some, Option.toList_none, not_true_eq_false, not_false_eq_true]
    exact ⟨Or.inr (Or.inl ⟨hc, rfl, mPub_no ht hm 1⟩), trivial, Nat.le_refl _, Nat.le_refl _⟩
theorem m7_change (ht : mTop D σ) (hm : mSt 2 D σ) {b h : Nat} (hw : kWf0 b h 0 h σ) (c n : Int32) : SpQ mX7_change 0 0 [kR (some (7, 4, 0)), kI c, kI n] (km D G) (fun v M' => (∃ g l, g < tG σ ∧ l < tL σ ∧ c = nI g ∧ n = nI l ∧ tZ σ 12 g = 0 ∧ tZ σ 21 l = 0 ∧ v = some (kI (nI (tQ (putT (takeOut σ g) g l) l).length - 1)) ∧ mPub D G (putT (takeOut σ g) g l) 0 M') ∨ (¬ ((0 ≤ c ∧ c < nI (tG σ)) ∧ 0 ≤ n ∧ n < nI (tL σ)) ∧ v = some (kI 0) ∧ mPub D G σ 1 M') ∨ ((∃ g l, g < tG σ ∧ l < tL σ ∧ c = nI g ∧ n = nI l ∧ ¬ (tZ σ 12 g = 0 ∧ tZ σ 21 l = 0)) ∧ v = some (kI 0) ∧ mPub D G σ 2 M')) := by
  refine SpQ_of (own := 7) (ini := false) (by decide +kernel) rfl (by decide) (Nat.le_of_ble_eq_true rfl) ?_
  intro X hC hE hL0
  have h7 := mLive7
  have hx := mLive (P := 2) (Or.inl rfl)
  have ht0 := mTop_thr ht 0
  have hm0 := mSt_7 (Or.inl rfl) hm 0 0
  obtain ⟨bC, hL, hG, bS, bQ⟩ := hw.1.1
  have l41 := mLive4 (k := 1) (by decide)
  have n41 : kN8 4 1 = 4 := rfl
  have l17 := mLive8 (P := 2) (k := 17) (Or.inl rfl) (by decide) (by decide)
  have n17 : kN8 2 17 = 91 := rfl
  have bad : ¬ ((0 ≤ c ∧ c < nI (tG σ)) ∧ 0 ≤ n ∧ n < nI (tL σ)) → KW X 21 [some (kR (some (7, 4, 0))), some (kI c), some (kI n)] [] (km (kput D (7, 4, 0) 0 0) G) 0 0 := by
    intro hn
    refine kwX7_change_21 hC hE ?_
    simp only [kbX7_change_21, mX7_change, kblk, kstp, kent, kpad, kget, kst1, kst2, kc2, cond_false, cond_true, kfv, kfit, kOkf, kputv, kputD, kputG, kcpy, kcat, kRR, kNN, true_and, and_true, if_true, if_false, if_pos, Nat.reduceAdd, Nat.reduceEqDiff, Nat.reduceLeDiff, Nat.reduceLT, reduceIte, Prod.mk.injEq, eq_self, false_and, and_false, reduceCtorEq, Nat.reduceSub, List.reverse_cons, List.reverse_nil, List.nil_append, List.cons_append, Option.toList_some, Option.toList_none, not_true_eq_false, not_false_eq_true]
    refine KW_callV hC (by decide +kernel) kl7_48 (by decide) ((m7_no 1)) rfl rfl (Nat.le_of_ble_eq_true rfl) rfl h7 (by simp [kOkL, kOk, h7]) (by simp [kOkS]) (Nat.le_of_ble_eq_true rfl) (Nat.le_of_ble_eq_true rfl) (Nat.le_of_ble_eq_true rfl) ?_
    rintro v M' ⟨rfl, rfl⟩
    refine kwX7_change_26 hC hE ?_
    simp only [kbX7_change_26, mX7_change, kblk, kstp, kent, kpad, kget, kst1, kst2, kc2, cond_false, cond_true, kfv, kfit, kOkf, kputv, kputD, kputG, kcpy, kcat, kRR, kNN, true_and, and_true, if_true, if_false, if_pos, Nat.reduceAdd, Nat.reduceEqDiff, Nat.reduceLeDiff, Nat.reduceLT, reduceIte, Prod.mk.injEq, eq_self, false_and, and_false, reduceCtorEq, Nat.reduceSub, List.reverse_cons, List.reverse_nil, List.nil_append, List.cons_append, Option.toList_some, Option.toList_none, not_true_eq_false, not_false_eq_true]
    exact ⟨Or.inr (Or.inl ⟨hn, rfl, mPub_no ht hm 1⟩), trivial, Nat.le_refl _, Nat.le_refl _⟩
  refine kwX7_change_0 hC hE ?_
  simp only [kbX7_change_0, mX7_change, kblk, kstp, kent, kpad, kget, kst1, kst2, kc2, cond_false, cond_true, kfv, kfit, kOkf, kputv, kputD, kputG, kcpy, kcat, kRR, kNN, true_and, and_true, if_true, if_false, if_pos, Nat.reduceAdd, Nat.reduceEqDiff, Nat.reduceLeDiff, Nat.reduceLT, reduceIte, Prod.mk.injEq, eq_self, false_and, and_false, reduceCtorEq, Nat.reduceSub, List.reverse_cons, List.reverse_nil, List.nil_append, List.cons_append, Option.toList_some, Option.toList_none, not_true_eq_false, not_false_eq_true, h7]
  refine KW_callV hC (by decide +kernel) kl7_79 (by decide) ((m7_isGroup hm0 hG c)) rfl rfl (Nat.le_of_ble_eq_true rfl) rfl h7 (by simp [kOkL, kOk, h7]) (by simp [kOkS]) (Nat.le_of_ble_eq_true rfl) (Nat.le_of_ble_eq_true rfl) (Nat.le_of_ble_eq_true rfl) ?_
  rintro v M' ⟨rfl, rfl⟩
  refine kwX7_change_10 hC hE ?_
  simp only [kbX7_change_10, mX7_change, kblk, kstp, kent, kpad, kget, kst1, kst2, kc2, cond_false, cond_true, kfv, kfit, kOkf, kputv, kputD, kputG, kcpy, kcat, kRR, kNN, true_and, and_true, if_true, if_false, if_pos, Nat.reduceAdd, Nat.reduceEqDiff, Nat.reduceLeDiff, Nat.reduceLT, reduceIte, Prod.mk.injEq, eq_self, false_and, and_false, reduceCtorEq, Nat.reduceSub, List.reverse_cons, List.reverse_nil, List.nil_append, List.cons_append, Option.toList_some, Option.toList_none, not_true_eq_false, not_false_eq_true]
  refine ⟨fun h => bad (fun z => by rw [if_pos z.1] at h; exact absurd h (by decide)), fun h => ?_⟩
  have hc : 0 ≤ c ∧ c < nI (tG σ) := Classical.byContradiction fun z => h (if_neg z)
  refine kwX7_change_13 hC hE ?_
  simp only [kbX7_change_13, mX7_change, kblk, kstp, kent, kpad, kget, kst1, kst2, kc2, cond_false, cond_true, kfv, kfit, kOkf, kputv, kputD, kputG, kcpy, kcat, kRR, kNN, true_and, and_true, if_true, if_false, if_pos, Nat.reduceAdd, Nat.reduceEqDiff, Nat.reduceLeDiff, Nat.reduceLT, reduceIte, Prod.mk.injEq, eq_self, false_and, and_false, reduceCtorEq, Nat.reduceSub, List.reverse_cons, List.reverse_nil, List.nil_append, List.cons_append, Option.toList_some, Option.toList_none, not_true_eq_false, not_false_eq_true]
  refine KW_callV hC (by decide +kernel) kl7_71 (by decide) ((m7_isLane ht0 hL n)) rfl rfl (Nat.le_of_ble_eq_true rfl) rfl h7 (by simp [kOkL, kOk, h7]) (by simp [kOkS]) (Nat.le_of_ble_eq_true rfl) (Nat.le_of_ble_eq_true rfl) (Nat.le_of_ble_eq_true rfl) ?_
  rintro v M' ⟨rfl, rfl⟩
  refine kwX7_change_18 hC hE ?_
  simp only [kbX7_change_18, mX7_change, kblk, kstp, kent, kpad, kget, kst1, kst2, kc2, cond_false, cond_true, kfv, kfit, kOkf, kputv, kputD, kputG, kcpy, kcat, kRR, kNN, true_and, and_true, if_true, if_false, if_pos, Nat.reduceAdd, Nat.reduceEqDiff, Nat.reduceLeDiff, Nat.reduceLT, reduceIte, Prod.mk.injEq, eq_self, false_and, and_false, reduceCtorEq, Nat.reduceSub, List.reverse_cons, List.reverse_nil, List.nil_append, List.cons_append, Option.toList_some, Option.toList_none, not_true_eq_false, not_false_eq_true]
  refine ⟨fun h2 => ?_, fun h2 => bad (fun z => by rw [if_pos z.2] at h2; exact absurd h2 (by decide))⟩
  have hn : 0 ≤ n ∧ n < nI (tL σ) := Classical.byContradiction fun z => h2 (if_neg z)
  obtain ⟨g, hg, rfl⟩ := in_range (show tG σ < 2 ^ 31 by omega) hc
  obtain ⟨l, hl, rfl⟩ := in_range (show tL σ < 2 ^ 31 by omega) hn
  have hcg := nI_clamp (show g < 2 ^ 31 by omega)
  have hcl := nI_clamp (show l < 2 ^ 31 by omega)
  have q17 : kput D (7, 4, 0) 0 0 (8, 2, 17) g = tZ σ 12 g := (hm0.2.2.2.2.2.2.2 g hg).2.2.1
  have q21 : kput D (7, 4, 0) 0 0 (8, 4, 1) l = tZ σ 21 l := ht0.2.2.1 l (by omega)
  have no2 : ¬ (tZ σ 12 g = 0 ∧ tZ σ 21 l = 0) → KW X 49 [some (kR (some (7, 4, 0))), some (kI (nI g)), some (kI (nI l))] [] (km (kput D (7, 4, 0) 0 0) G) 0 0 := by
    intro hn
    refine kwX7_change_49 hC hE ?_
    simp only [kbX7_change_49, mX7_change, kblk, kstp, kent, kpad, kget, kst1, kst2, kc2, cond_false, cond_true, kfv, kfit, kOkf, kputv, kputD, kputG, kcpy, kcat, kRR, kNN, true_and, and_true, if_true, if_false, if_pos, Nat.reduceAdd, Nat.reduceEqDiff, Nat.reduceLeDiff, Nat.reduceLT, reduceIte, Prod.mk.injEq, eq_self, false_and, and_false, reduceCtorEq, Nat.reduceSub, List.reverse_cons, List.reverse_nil, List.nil_append, List.cons_append, Option.toList_some, Option.toList_none, not_true_eq_false, not_false_eq_true]
    refine KW_callV hC (by decide +kernel) kl7_48 (by decide) ((m7_no 2)) rfl rfl (Nat.le_of_ble_eq_true rfl) rfl h7 (by simp [kOkL, kOk, h7]) (by simp [kOkS]) (Nat.le_of_ble_eq_true rfl) (Nat.le_of_ble_eq_true rfl) (Nat.le_of_ble_eq_true rfl) ?_
    rintro v M' ⟨rfl, rfl⟩
    refine kwX7_change_54 hC hE ?_
    simp only [kbX7_change_54, mX7_change, kblk, kstp, kent, kpad, kget, kst1, kst2, kc2, cond_false, cond_true, kfv, kfit, kOkf, kputv, kputD, kputG, kcpy, kcat, kRR, kNN, true_and, and_true, if_true, if_false, if_pos, Nat.reduceAdd, Nat.reduceEqDiff, Nat.reduceLeDiff, Nat.reduceLT, reduceIte, Prod.mk.injEq, eq_self, false_and, and_false, reduceCtorEq, Nat.reduceSub, List.reverse_cons, List.reverse_nil, List.nil_append, List.cons_append, Option.toList_some, Option.toList_none, not_true_eq_false, not_false_eq_true]
    exact ⟨Or.inr (Or.inr ⟨⟨g, l, hg, hl, rfl, rfl, hn⟩, rfl, mPub_no ht hm 2⟩), trivial, Nat.le_refl _, Nat.le_refl _⟩
  refine kwX7_change_27 hC hE ?_
  simp only [kbX7_change_27, mX7_change, kblk, kstp, kent, kpad, kget, kst1, kst2, kc2, cond_false, cond_true, kfv, kfit, kOkf, kputv, kputD, kputG, kcpy, kcat, kRR, kNN, true_and, and_true, if_true, if_false, if_pos, Nat.reduceAdd, Nat.reduceEqDiff, Nat.reduceLeDiff, Nat.reduceLT, reduceIte, Prod.mk.injEq, eq_self, false_and, and_false, reduceCtorEq, Nat.reduceSub, List.reverse_cons, List.reverse_nil, List.nil_append, List.cons_append, Option.toList_some, Option.toList_none, not_true_eq_false, not_false_eq_true, h7, hx, l17, n17, hcg, q17]
  refine ⟨vp_in_nI (show g < 91 by omega) (by omega), fun h3 => no2 (fun z => h3 z.1), fun h3 => ?_⟩
  refine kwX7_change_39 hC hE ?_
  simp only [kbX7_change_39, mX7_change, kblk, kstp, kent, kpad, kget, kst1, kst2, kc2, cond_false, cond_true, kfv, kfit, kOkf, kputv, kputD, kputG, kcpy, kcat, kRR, kNN, true_and, and_true, if_true, if_false, if_pos, Nat.reduceAdd, Nat.reduceEqDiff, Nat.reduceLeDiff, Nat.reduceLT, reduceIte, Prod.mk.injEq, eq_self, false_and, and_false, reduceCtorEq, Nat.reduceSub, List.reverse_cons, List.reverse_nil, List.nil_append, List.cons_append, Option.toList_some, Option.toList_none, not_true_eq_false, not_false_eq_true, h7, l41, n41, hcl, q21]
  refine ⟨vp_in_nI (show l < 4 by omega) (by omega), fun h4 => ?_, fun h4 => no2 (fun z => by rw [z.2] at h4; exact absurd h4 (by decide))⟩
  have h5 : tZ σ 21 l = 0 := (hw.2.2.2.2.2.2 l hl).resolve_right h4
  obtain ⟨k14, l0, hl0, k13, hmem⟩ := gOK_wait (hw.2.2.2.2.1 g hg) h3
  refine kwX7_change_55 hC hE ?_
  simp only [kbX7_change_55, mX7_change, kblk, kstp, kent, kpad, kget, kst1, kst2, kc2, cond_false, cond_true, kfv, kfit, kOkf, kputv, kputD, kputG, kcpy, kcat, kRR, kNN, true_and, and_true, if_true, if_false, if_pos, Nat.reduceAdd, Nat.reduceEqDiff, Nat.reduceLeDiff, Nat.reduceLT, reduceIte, Prod.mk.injEq, eq_self, false_and, and_false, reduceCtorEq, Nat.reduceSub, List.reverse_cons, List.reverse_nil, List.nil_append, List.cons_append, Option.toList_some, Option.toList_none, not_true_eq_false, not_false_eq_true, h7]
  refine KW_callV hC (by decide +kernel) kl7_85 (by decide) ((m_drop (Or.inl rfl) hm0 hw.qOK hg hG (by omega) k13 hmem (hw.1.2.2.2.1 l0 hl0).1 (fun x hx => by have := bQ l0 hl0 x hx; omega))) rfl rfl (Nat.le_of_ble_eq_true rfl) rfl hx (by simp [kOkL, kOk, h7, hx]) (by simp [kOkS]) (Nat.le_of_ble_eq_true rfl) (Nat.le_of_ble_eq_true rfl) (Nat.le_of_ble_eq_true rfl) ?_
  rintro v M' ⟨rfl, D1, rfl, hm1, ho1⟩
  refine kwX7_change_63 hC hE ?_
  simp only [kbX7_change_63, mX7_change, kblk, kstp, kent, kpad, kget, kst1, kst2, kc2, cond_false, cond_true, kfv, kfit, kOkf, kputv, kputD, kputG, kcpy, kcat, kRR, kNN, true_and, and_true, if_true, if_false, if_pos, Nat.reduceAdd, Nat.reduceEqDiff, Nat.reduceLeDiff, Nat.reduceLT, reduceIte, Prod.mk.injEq, eq_self, false_and, and_false, reduceCtorEq, Nat.reduceSub, List.reverse_cons, List.reverse_nil, List.nil_append, List.cons_append, Option.toList_some, Option.toList_none, not_true_eq_false, not_false_eq_true, h7]
  have z13 : tZ (takeOut σ g) 13 g = -1 := by rw [tZ_takeOut, zup_eq]
  have z14 : tZ (takeOut σ g) 14 g = -1 := by rw [tZ_takeOut, zup_ne (by decide)]; exact k14
  have z12 : tZ (takeOut σ g) 12 g = 0 := by rw [tZ_takeOut, zup_ne (by decide)]; exact h3
  have hqlt := (hw.1.take hg).qlt (g := g) (l := l) (by rw [tG_takeOut]; exact hg) (by rw [tL_takeOut]; exact hl) z13
  rw [tG_takeOut] at hqlt
  refine KW_callV hC (by decide +kernel) kl7_88 (by decide) ((m_enter (Or.inl rfl) hm1 (qOK_take hw.qOK) (show g < 91 by omega) (show l < 4 by omega) (by omega) z14)) rfl rfl (Nat.le_of_ble_eq_true rfl) rfl hx (by simp [kOkL, kOk, h7, hx]) (by simp [kOkS]) (Nat.le_of_ble_eq_true rfl) (Nat.le_of_ble_eq_true rfl) (Nat.le_of_ble_eq_true rfl) ?_
  rintro v M' ⟨rfl, D2, rfl, hm2, ho2⟩
  rw [tset_self z12] at hm2
  refine kwX7_change_73 hC hE ?_
  simp only [kbX7_change_73, mX7_change, kblk, kstp, kent, kpad, kget, kst1, kst2, kc2, cond_false, cond_true, kfv, kfit, kOkf, kputv, kputD, kputG, kcpy, kcat, kRR, kNN, true_and, and_true, if_true, if_false, if_pos, Nat.reduceAdd, Nat.reduceEqDiff, Nat.reduceLeDiff, Nat.reduceLT, reduceIte, Prod.mk.injEq, eq_self, false_and, and_false, reduceCtorEq, Nat.reduceSub, List.reverse_cons, List.reverse_nil, List.nil_append, List.cons_append, Option.toList_some, Option.toList_none, not_true_eq_false, not_false_eq_true]
  refine ⟨Or.inl ⟨g, l, hg, hl, rfl, rfl, h3, h5, ?_, mPub_to2 ht ?_ ?_ (fun c => ?_) (fun c => ?_) (fun c => ?_) ?_ hm2 (ho2.trans ho1)⟩, trivial, Nat.le_refl _, Nat.le_refl _⟩
  · have : (tQ (putT (takeOut σ g) g l) l).length = (tQ (takeOut σ g) l).length + 1 := by
      show (qup (tQ (takeOut σ g)) l (tQ (takeOut σ g) l ++ [g]) l).length = _
      rw [qup_eq, List.length_append]; rfl
    rw [this]
  · exact tC_takeOut
  · exact tL_takeOut
  · show zup (tZ (takeOut σ g)) 13 g (nI l) 0 c = _
    rw [zup_ne (by decide), tZ_takeOut, zup_ne (by decide)]
  · show zup (tZ (takeOut σ g)) 13 g (nI l) 21 c = _
    rw [zup_ne (by decide), tZ_takeOut, zup_ne (by decide)]
  · show zup (tZ (takeOut σ g)) 13 g (nI l) 50 c = _
    rw [zup_ne (by decide), tZ_takeOut, zup_ne (by decide)]
  · show zup (tZ (takeOut σ g)) 13 g (nI l) 38 0 = _
    rw [zup_ne (by decide), tZ_takeOut, zup_ne (by decide)]
theorem m7_leave (ht : mTop D σ) (hm : mSt 2 D σ) {b h : Nat} (hw : kWf0 b h 0 h σ) (c : Int32) : SpQ mX7_leave 0 0 [kR (some (7, 4, 0)), kI c] (km D G) (fun v M' => (∃ g, g < tG σ ∧ c = nI g ∧ tZ σ 12 g = 0 ∧ v = some (kI (tZ σ 13 g)) ∧ mPub D G (sendT σ g) 0 M') ∨ (¬ (0 ≤ c ∧ c < nI (tG σ)) ∧ v = some (kI 0) ∧ mPub D G σ 1 M') ∨ ((∃ g, g < tG σ ∧ c = nI g ∧ ¬ tZ σ 12 g = 0) ∧ v = some (kI 0) ∧ mPub D G σ 2 M')) := by
  refine SpQ_of (own := 7) (ini := false) (by decide +kernel) rfl (by decide) (Nat.le_of_ble_eq_true rfl) ?_
  intro X hC hE hL0
  have h7 := mLive7
  have hx := mLive (P := 2) (Or.inl rfl)
  have ht0 := mTop_thr ht 0
  have hm0 := mSt_7 (Or.inl rfl) hm 0 0
  obtain ⟨bC, hL, hG, bS, bQ⟩ := hw.1.1
  have l17 := mLive8 (P := 2) (k := 17) (Or.inl rfl) (by decide) (by decide)
  have n17 : kN8 2 17 = 91 := rfl
  refine kwX7_leave_0 hC hE ?_
  simp only [kbX7_leave_0, mX7_leave, kblk, kstp, kent, kpad, kget, kst1, kst2, kc2, cond_false, cond_true, kfv, kfit, kOkf, kputv, kputD, kputG, kcpy, kcat, kRR, kNN, true_and, and_true, if_true, if_false, if_pos, Nat.reduceAdd, Nat.reduceEqDiff, Nat.reduceLeDiff, Nat.reduceLT, reduceIte, Prod.mk.injEq, eq_self, false_and, and_false, reduceCtorEq, Nat.reduceSub, List.reverse_cons, List.reverse_nil, List.nil_append, List.cons_append, Option.toList_some, Option.toList_none, not_true_eq_false, not_false_eq_true, h7]
  refine KW_callV hC (by decide +kernel) kl7_79 (by decide) ((m7_isGroup hm0 hG c)) rfl rfl (Nat.le_of_ble_eq_true rfl) rfl h7 (by simp [kOkL, kOk, h7]) (by simp [kOkS]) (Nat.le_of_ble_eq_true rfl) (Nat.le_of_ble_eq_true rfl) (Nat.le_of_ble_eq_true rfl) ?_
  rintro v M' ⟨rfl, rfl⟩
  refine kwX7_leave_10 hC hE ?_
  simp only [kbX7_leave_10, mX7_leave, kblk, kstp, kent, kpad, kget, kst1, kst2, kc2, cond_false, cond_true, kfv, kfit, kOkf, kputv, kputD, kputG, kcpy, kcat, kRR, kNN, true_and, and_true, if_true, if_false, if_pos, Nat.reduceAdd, Nat.reduceEqDiff, Nat.reduceLeDiff, Nat.reduceLT, reduceIte, Prod.mk.injEq, eq_self, false_and, and_false, reduceCtorEq, Nat.reduceSub, List.reverse_cons, List.reverse_nil, List.nil_append, List.cons_append, Option.toList_some, Option.toList_none, not_true_eq_false, not_false_eq_true]
  refine ⟨fun h => ?_, fun h => ?_⟩
  · have hc : 0 ≤ c ∧ c < nI (tG σ) := Classical.byContradiction fun z => h (if_neg z)
    obtain ⟨g, hg, rfl⟩ := in_range (show tG σ < 2 ^ 31 by omega) hc
    have hcg := nI_clamp (show g < 2 ^ 31 by omega)
    have q17 : kput D (7, 4, 0) 0 0 (8, 2, 17) g = tZ σ 12 g := (hm0.2.2.2.2.2.2.2 g hg).2.2.1
    refine kwX7_leave_19 hC hE ?_
    simp only [kbX7_leave_19, mX7_leave, kblk, kstp, kent, kpad, kget, kst1, kst2, kc2, cond_false, cond_true, kfv, kfit, kOkf, kputv, kputD, kputG, kcpy, kcat, kRR, kNN, true_and, and_true, if_true, if_false, if_pos, Nat.reduceAdd, Nat.reduceEqDiff, Nat.reduceLeDiff, Nat.reduceLT, reduceIte, Prod.mk.injEq, eq_self, false_and, and_false, reduceCtorEq, Nat.reduceSub, List.reverse_cons, List.reverse_nil, List.nil_append, List.cons_append, Option.toList_some, Option.toList_none, not_true_eq_false, not_false_eq_true, h7, hx, l17, n17, hcg, q17]
    refine ⟨vp_in_nI (show g < 91 by omega) (by omega), fun h3 => ?_, fun h3 => ?_⟩
    · obtain ⟨k14, l0, hl0, k13, hmem⟩ := gOK_wait (hw.2.2.2.2.1 g hg) h3
      have hm1 : mSt 2 (kput (kput D (7, 4, 0) 0 0) (8, 2, 17) g 3) (tset σ 12 g 3) := ⟨mSc_arr (mSc_free hm0.1 12 g 3 (by decide)) 17 g 3, mArr_put hm0.2 17 g 3 (by decide)⟩
      have y13 : tZ (tset σ 12 g 3) 13 g = nI l0 := (tZ_ne (by decide)).trans k13
      refine kwX7_leave_37 hC hE ?_
      simp only [kbX7_leave_37, mX7_leave, kblk, kstp, kent, kpad, kget, kst1, kst2, kc2, cond_false, cond_true, kfv, kfit, kOkf, kputv, kputD, kputG, kcpy, kcat, kRR, kNN, true_and, and_true, if_true, if_false, if_pos, Nat.reduceAdd, Nat.reduceEqDiff, Nat.reduceLeDiff, Nat.reduceLT, reduceIte, Prod.mk.injEq, eq_self, false_and, and_false, reduceCtorEq, Nat.reduceSub, List.reverse_cons, List.reverse_nil, List.nil_append, List.cons_append, Option.toList_some, Option.toList_none, not_true_eq_false, not_false_eq_true, h7, hx, l17, n17, hcg]
      refine ⟨vp_in_nI (show g < 91 by omega) (by omega), ?_⟩
      refine KW_callV hC (by decide +kernel) kl7_85 (by decide) ((m_drop (Or.inl rfl) hm1 (σ := tset σ 12 g 3) hw.qOK hg hG (by omega) y13 hmem (hw.1.2.2.2.1 l0 hl0).1 (fun x hx => by have := bQ l0 hl0 x hx; omega))) rfl rfl (Nat.le_of_ble_eq_true rfl) rfl hx (by simp [kOkL, kOk, h7, hx]) (by simp [kOkS]) (Nat.le_of_ble_eq_true rfl) (Nat.le_of_ble_eq_true rfl) (Nat.le_of_ble_eq_true rfl) ?_
      rintro v M' ⟨rfl, D2, rfl, hm2, ho2⟩
      refine kwX7_leave_55 hC hE ?_
      simp only [kbX7_leave_55, mX7_leave, kblk, kstp, kent, kpad, kget, kst1, kst2, kc2, cond_false, cond_true, kfv, kfit, kOkf, kputv, kputD, kputG, kcpy, kcat, kRR, kNN, true_and, and_true, if_true, if_false, if_pos, Nat.reduceAdd, Nat.reduceEqDiff, Nat.reduceLeDiff, Nat.reduceLT, reduceIte, Prod.mk.injEq, eq_self, false_and, and_false, reduceCtorEq, Nat.reduceSub, List.reverse_cons, List.reverse_nil, List.nil_append, List.cons_append, Option.toList_some, Option.toList_none, not_true_eq_false, not_false_eq_true]
      have hm3 : mSt 2 D2 (sendT σ g) := by
        refine mSt_congr hm2 ?_ ?_ ?_ ?_ (fun f j _ _ => ?_)
        · exact (tC_takeOut (σ := σ) (g := g)).trans (tC_takeOut (σ := tset σ 12 g 3) (g := g)).symm
        · exact (tG_takeOut (σ := σ) (g := g)).trans (tG_takeOut (σ := tset σ 12 g 3) (g := g)).symm
        · exact (tS_takeOut (σ := σ) (g := g)).trans (tS_takeOut (σ := tset σ 12 g 3) (g := g)).symm
        · show tQ (takeOut σ g) = _
          rw [tQ_takeOut k13 (by omega), tQ_takeOut y13 (by omega)]; rfl
        · show zup (tZ (takeOut σ g)) 12 g 3 f j = _
          rw [tZ_takeOut, tZ_takeOut, tZ_tset]
          by_cases h1 : f = 12 ∧ j = g
          · obtain ⟨rfl, rfl⟩ := h1
            rw [zup_eq, zup_ne (by decide), zup_eq]
          · simp only [zup, h1, if_false]
      refine ⟨Or.inl ⟨g, hg, rfl, h3, by rw [k13], mPub_to (Or.inl rfl) ht same_send hm3 (ho2.trans kOff.put)⟩, trivial, Nat.le_refl _, Nat.le_refl _⟩
    · skip
      refine kwX7_leave_31 hC hE ?_
      simp only [kbX7_leave_31, mX7_leave, kblk, kstp, kent, kpad, kget, kst1, kst2, kc2, cond_false, cond_true, kfv, kfit, kOkf, kputv, kputD, kputG, kcpy, kcat, kRR, kNN, true_and, and_true, if_true, if_false, if_pos, Nat.reduceAdd, Nat.reduceEqDiff, Nat.reduceLeDiff, Nat.reduceLT, reduceIte, Prod.mk.injEq, eq_self, false_and, and_false, reduceCtorEq, Nat.reduceSub, List.reverse_cons, List.reverse_nil, List.nil_append, List.cons_append, Option.toList_some, Option.toList_none, not_true_eq_false, not_false_eq_true]
      refine KW_callV hC (by decide +kernel) kl7_48 (by decide) ((m7_no 2)) rfl rfl (Nat.le_of_ble_eq_true rfl) rfl h7 (by simp [kOkL, kOk, h7]) (by simp [kOkS]) (Nat.le_of_ble_eq_true rfl) (Nat.le_of_ble_eq_true rfl) (Nat.le_of_ble_eq_true rfl) ?_
      rintro v M' ⟨rfl, rfl⟩
      refine kwX7_leave_36 hC hE ?_
      simp only [kbX7_leave_36, mX7_leave, kblk, kstp, kent, kpad, kget, kst1, kst2, kc2, cond_false, cond_true, kfv, kfit, kOkf, kputv, kputD, kputG, kcpy, kcat, kRR, kNN, true_and, and_true, if_true, if_false, if_pos, Nat.reduceAdd, Nat.reduceEqDiff, Nat.reduceLeDiff, Nat.reduceLT, reduceIte, Prod.mk.injEq, eq_self, false_and, and_false, reduceCtorEq, Nat.reduceSub, List.reverse_cons, List.reverse_nil, List.nil_append, List.cons_append, Option.toList_some, Option.toList_none, not_true_eq_false, not_false_eq_true]
      exact ⟨Or.inr (Or.inr ⟨⟨g, hg, rfl, h3⟩, rfl, mPub_no ht hm 2⟩), trivial, Nat.le_refl _, Nat.le_refl _⟩
  · have hc : ¬ (0 ≤ c ∧ c < nI (tG σ)) := fun z => by rw [if_pos z] at h; exact absurd h (by decide)
    refine kwX7_leave_13 hC hE ?_
    simp only [kbX7_leave_13, mX7_leave, kblk, kstp, kent, kpad, kget, kst1, kst2, kc2, cond_false, cond_true, kfv, kfit, kOkf, kputv, kputD, kputG, kcpy, kcat, kRR, kNN, true_and, and_true, if_true, if_false, if_pos, Nat.reduceAdd, Nat.reduceEqDiff, Nat.reduceLeDiff, Nat.reduceLT, reduceIte, Prod.mk.injEq, eq_self, false_and, and_false, reduceCtorEq, Nat.reduceSub, List.reverse_cons, List.reverse_nil, List.nil_append, List.cons_append, Option.toList_some, Option.toList_none, not_true_eq_false, not_false_eq_true]
    refine KW_callV hC (by decide +kernel) kl7_48 (by decide) ((m7_no 1)) rfl rfl (Nat.le_of_ble_eq_true rfl) rfl h7 (by simp [kOkL, kOk, h7]) (by simp [kOkS]) (Nat.le_of_ble_eq_true rfl) (Nat.le_of_ble_eq_true rfl) (Nat.le_of_ble_eq_true rfl) ?_
    rintro v M' ⟨rfl, rfl⟩
    refine kwX7_leave_18 hC hE ?_
    simp only [kbX7_leave_18, mX7_leave, kblk, kstp, kent, kpad, kget, kst1, kst2, kc2, cond_false, cond_true, kfv, kfit, kOkf, kputv, kputD, kputG, kcpy, kcat, kRR, kNN, true_and, and_true, if_true, if_false, if_pos, Nat.reduceAdd, Nat.reduceEqDiff, Nat.reduceLeDiff, Nat.reduceLT, reduceIte, Prod.mk.injEq, eq_self, false_and, and_false, reduceCtorEq, Nat.reduceSub, List.reverse_cons, List.reverse_nil, List.nil_append, List.cons_append, Option.toList_some, Option.toList_none, not_true_eq_false, not_false_eq_true]
    exact ⟨Or.inr (Or.inl ⟨hc, rfl, mPub_no ht hm 1⟩), trivial, Nat.le_refl _, Nat.le_refl _⟩
theorem m7_queue (ht : mTop D σ) (hm : mSt 2 D σ) (hs : kS σ) (c n : Int32) : SpQ mX7_queue 0 0 [kR (some (7, 4, 0)), kI c, kI n] (km D G) (fun v M' => (∃ l i x, l < tL σ ∧ c = nI l ∧ n = nI i ∧ (tQ σ l)[i]? = some x ∧ v = some (kI (nI x)) ∧ mPub D G σ 0 M') ∨ (¬ ((0 ≤ c ∧ c < nI (tL σ)) ∧ 0 ≤ n ∧ n < nI (tQ σ c.toNatClampNeg).length) ∧ v = some (kI 0) ∧ mPub D G σ 1 M')) := by
  refine SpQ_of (own := 7) (ini := false) (by decide +kernel) rfl (by decide) (Nat.le_of_ble_eq_true rfl) ?_
  intro X hC hE hL0
  have h7 := mLive7
  have hx := mLive (P := 2) (Or.inl rfl)
  have ht0 := mTop_thr ht 0
  have hm0 := mSt_7 (Or.inl rfl) hm 0 0
  obtain ⟨bC, hL, hG, bS, bQ⟩ := hs.1
  have l13 := mLive8 (P := 2) (k := 13) (Or.inl rfl) (by decide) (by decide)
  have n13 : kN8 2 13 = 4 := rfl
  have l14 := mLive8 (P := 2) (k := 14) (Or.inl rfl) (by decide) (by decide)
  have n14 : kN8 2 14 = 364 := rfl
  have bad : ¬ ((0 ≤ c ∧ c < nI (tL σ)) ∧ 0 ≤ n ∧ n < nI (tQ σ c.toNatClampNeg).length) → KW X 49 [some (kR (some (7, 4, 0))), some (kI c), some (kI n)] [] (km (kput D (7, 4, 0) 0 0) G) 0 0 := by
    intro hn
    refine kwX7_queue_49 hC hE ?_
    simp only [kbX7_queue_49, mX7_queue, kblk, kstp, kent, kpad, kget, kst1, kst2, kc2, cond_false, cond_true, kfv, kfit, kOkf, kputv, kputD, kputG, kcpy, kcat, kRR, kNN, true_and, and_true, if_true, if_false, if_pos, Nat.reduceAdd, Nat.reduceEqDiff, Nat.reduceLeDiff, Nat.reduceLT, reduceIte, Prod.mk.injEq, eq_self, false_and, and_false, reduceCtorEq, Nat.reduceSub, List.reverse_cons, List.reverse_nil, List.nil_append, List.cons_append, Option.toList_some, Option.toList_none, not_true_eq_false, not_false_eq_true]
    refine KW_callV hC (by decide +kernel) kl7_48 (by decide) ((m7_no 1)) rfl rfl (Nat.le_of_ble_eq_true rfl) rfl h7 (by simp [kOkL, kOk, h7]) (by simp [kOkS]) (Nat.le_of_ble_eq_true rfl) (Nat.le_of_ble_eq_true rfl) (Nat.le_of_ble_eq_true rfl) ?_
    rintro v M' ⟨rfl, rfl⟩
    refine kwX7_queue_54 hC hE ?_
    simp only [kbX7_queue_54, mX7_queue, kblk, kstp, kent, kpad, kget, kst1, kst2, kc2, cond_false, cond_true, kfv, kfit, kOkf, kputv, kputD, kputG, kcpy, kcat, kRR, kNN, true_and, and_true, if_true, if_false, if_pos, Nat.reduceAdd, Nat.reduceEqDiff, Nat.reduceLeDiff, Nat.reduceLT, reduceIte, Prod.mk.injEq, eq_self, false_and, and_false, reduceCtorEq, Nat.reduceSub, List.reverse_cons, List.reverse_nil, List.nil_append, List.cons_append, Option.toList_some, Option.toList_none, not_true_eq_false, not_false_eq_true]
    exact ⟨Or.inr ⟨hn, rfl, mPub_no ht hm 1⟩, trivial, Nat.le_refl _, Nat.le_refl _⟩
  refine kwX7_queue_0 hC hE ?_
  simp only [kbX7_queue_0, mX7_queue, kblk, kstp, kent, kpad, kget, kst1, kst2, kc2, cond_false, cond_true, kfv, kfit, kOkf, kputv, kputD, kputG, kcpy, kcat, kRR, kNN, true_and, and_true, if_true, if_false, if_pos, Nat.reduceAdd, Nat.reduceEqDiff, Nat.reduceLeDiff, Nat.reduceLT, reduceIte, Prod.mk.injEq, eq_self, false_and, and_false, reduceCtorEq, Nat.reduceSub, List.reverse_cons, List.reverse_nil, List.nil_append, List.cons_append, Option.toList_some, Option.toList_none, not_true_eq_false, not_false_eq_true, h7]
  refine KW_callV hC (by decide +kernel) kl7_71 (by decide) ((m7_isLane ht0 hL c)) rfl rfl (Nat.le_of_ble_eq_true rfl) rfl h7 (by simp [kOkL, kOk, h7]) (by simp [kOkS]) (Nat.le_of_ble_eq_true rfl) (Nat.le_of_ble_eq_true rfl) (Nat.le_of_ble_eq_true rfl) ?_
  rintro v M' ⟨rfl, rfl⟩
  refine kwX7_queue_10 hC hE ?_
  simp only [kbX7_queue_10, mX7_queue, kblk, kstp, kent, kpad, kget, kst1, kst2, kc2, cond_false, cond_true, kfv, kfit, kOkf, kputv, kputD, kputG, kcpy, kcat, kRR, kNN, true_and, and_true, if_true, if_false, if_pos, Nat.reduceAdd, Nat.reduceEqDiff, Nat.reduceLeDiff, Nat.reduceLT, reduceIte, Prod.mk.injEq, eq_self, false_and, and_false, reduceCtorEq, Nat.reduceSub, List.reverse_cons, List.reverse_nil, List.nil_append, List.cons_append, Option.toList_some, Option.toList_none, not_true_eq_false, not_false_eq_true]
  refine ⟨fun h => bad (fun z => by rw [if_pos z.1] at h; exact absurd h (by decide)), fun h => ?_⟩
  have hc : 0 ≤ c ∧ c < nI (tL σ) := Classical.byContradiction fun z => h (if_neg z)
  obtain ⟨l, hl, rfl⟩ := in_range (show tL σ < 2 ^ 31 by omega) hc
  have hcl := nI_clamp (show l < 2 ^ 31 by omega)
  have hql := hs.qlen hl
  have q13 : kput D (7, 4, 0) 0 0 (8, 2, 13) l = nI (tQ σ l).length := hm0.2.2.2.2.2.1 l (by omega)
  rw [hcl] at bad
  refine kwX7_queue_13 hC hE ?_
  simp only [kbX7_queue_13, mX7_queue, kblk, kstp, kent, kpad, kget, kst1, kst2, kc2, cond_false, cond_true, kfv, kfit, kOkf, kputv, kputD, kputG, kcpy, kcat, kRR, kNN, true_and, and_true, if_true, if_false, if_pos, Nat.reduceAdd, Nat.reduceEqDiff, Nat.reduceLeDiff, Nat.reduceLT, reduceIte, Prod.mk.injEq, eq_self, false_and, and_false, reduceCtorEq, Nat.reduceSub, List.reverse_cons, List.reverse_nil, List.nil_append, List.cons_append, Option.toList_some, Option.toList_none, not_true_eq_false, not_false_eq_true, h7, hx, l13, n13, hcl, q13]
  refine ⟨vp_in_nI (show l < 4 by omega) (by omega), ?_⟩
  refine KW_callS hC (by decide +kernel) kl7_41 (by decide) ((m7_isIn (km (kput D (7, 4, 0) 0 0) G) n 0 (nI (tQ σ l).length - 1))) rfl rfl (by simp [kOkL, kOk, h7]) (by simp [kOkS]) (Nat.le_of_ble_eq_true rfl) (Nat.le_of_ble_eq_true rfl) (Nat.le_of_ble_eq_true rfl) ?_
  rintro v M' ⟨rfl, rfl⟩
  rw [if_pred (show (tQ σ l).length < 2 ^ 31 by omega)]
  refine kwX7_queue_29 hC hE ?_
  simp only [kbX7_queue_29, mX7_queue, kblk, kstp, kent, kpad, kget, kst1, kst2, kc2, cond_false, cond_true, kfv, kfit, kOkf, kputv, kputD, kputG, kcpy, kcat, kRR, kNN, true_and, and_true, if_true, if_false, if_pos, Nat.reduceAdd, Nat.reduceEqDiff, Nat.reduceLeDiff, Nat.reduceLT, reduceIte, Prod.mk.injEq, eq_self, false_and, and_false, reduceCtorEq, Nat.reduceSub, List.reverse_cons, List.reverse_nil, List.nil_append, List.cons_append, Option.toList_some, Option.toList_none, not_true_eq_false, not_false_eq_true]
  refine ⟨fun h2 => bad (fun z => by rw [if_pos z.2] at h2; exact absurd h2 (by decide)), fun h2 => ?_⟩
  have hn : 0 ≤ n ∧ n < nI (tQ σ l).length := Classical.byContradiction fun z => h2 (if_neg z)
  obtain ⟨i, hi, rfl⟩ := in_range (show (tQ σ l).length < 2 ^ 31 by omega) hn
  have q14 := hm0.2.2.2.2.2.2.1 l (by omega) i _ (List.getElem?_eq_getElem hi)
  refine kwX7_queue_32 hC hE ?_
  simp only [kbX7_queue_32, mX7_queue, kblk, kstp, kent, kpad, kget, kst1, kst2, kc2, cond_false, cond_true, kfv, kfit, kOkf, kputv, kputD, kputG, kcpy, kcat, kRR, kNN, true_and, and_true, if_true, if_false, if_pos, Nat.reduceAdd, Nat.reduceEqDiff, Nat.reduceLeDiff, Nat.reduceLT, reduceIte, Prod.mk.injEq, eq_self, false_and, and_false, reduceCtorEq, Nat.reduceSub, List.reverse_cons, List.reverse_nil, List.nil_append, List.cons_append, Option.toList_some, Option.toList_none, not_true_eq_false, not_false_eq_true, h7, hx, l14, n14, e91, nI_clamp (show 91 * l + i < 2 ^ 31 by omega), q14]
  refine ⟨vp_in_nI (show 91 * l + i < 364 by omega) (by omega), ?_⟩
  refine kwX7_queue_54 hC hE ?_
  simp only [kbX7_queue_54, mX7_queue, kblk, kstp, kent, kpad, kget, kst1, kst2, kc2, cond_false, cond_true, kfv, kfit, kOkf, kputv, kputD, kputG, kcpy, kcat, kRR, kNN, true_and, and_true, if_true, if_false, if_pos, Nat.reduceAdd, Nat.reduceEqDiff, Nat.reduceLeDiff, Nat.reduceLT, reduceIte, Prod.mk.injEq, eq_self, false_and, and_false, reduceCtorEq, Nat.reduceSub, List.reverse_cons, List.reverse_nil, List.nil_append, List.cons_append, Option.toList_some, Option.toList_none, not_true_eq_false, not_false_eq_true]
  exact ⟨Or.inl ⟨l, i, _, hl, rfl, rfl, List.getElem?_eq_getElem hi, rfl, mPub_0 ht hm⟩, trivial, Nat.le_refl _, Nat.le_refl _⟩
theorem m7_shed (ht : mTop D σ) (hm : mSt 2 D σ) (hs : kS σ) (n : Int32) : SpQ mX7_shed 0 0 [kR (some (7, 4, 0)), kI n] (km D G) (fun v M' => (∃ i x, n = nI i ∧ (tS σ)[i]? = some x ∧ v = some (kI (nI x)) ∧ mPub D G σ 0 M') ∨ (¬ (0 ≤ n ∧ n < nI (tS σ).length) ∧ v = some (kI 0) ∧ mPub D G σ 1 M')) := by
  refine SpQ_of (own := 7) (ini := false) (by decide +kernel) rfl (by decide) (Nat.le_of_ble_eq_true rfl) ?_
  intro X hC hE hL0
  have h7 := mLive7
  have hx := mLive (P := 2) (Or.inl rfl)
  have ht0 := mTop_thr ht 0
  have hm0 := mSt_7 (Or.inl rfl) hm 0 0
  obtain ⟨bC, hL, hG, bS, bQ⟩ := hs.1
  have hlen := hs.slen
  have l9 := mLive8 (P := 2) (k := 9) (Or.inl rfl) (by decide) (by decide)
  have n9 : kN8 2 9 = 20 := rfl
  have q8 : kput D (7, 4, 0) 0 0 (6, 2, 0) 8 = nI (tS σ).length := hm0.1.2.2.2.2.2.2.2.2
  refine kwX7_shed_0 hC hE ?_
  simp only [kbX7_shed_0, mX7_shed, kblk, kstp, kent, kpad, kget, kst1, kst2, kc2, cond_false, cond_true, kfv, kfit, kOkf, kputv, kputD, kputG, kcpy, kcat, kRR, kNN, true_and, and_true, if_true, if_false, if_pos, Nat.reduceAdd, Nat.reduceEqDiff, Nat.reduceLeDiff, Nat.reduceLT, reduceIte, Prod.mk.injEq, eq_self, false_and, and_false, reduceCtorEq, Nat.reduceSub, List.reverse_cons, List.reverse_nil, List.nil_append, List.cons_append, Option.toList_some, Option.toList_none, not_true_eq_false, not_false_eq_true, h7, hx, q8]
  refine KW_callS hC (by decide +kernel) kl7_41 (by decide) ((m7_isIn (km (kput D (7, 4, 0) 0 0) G) n 0 (nI (tS σ).length - 1))) rfl rfl (by simp [kOkL, kOk, h7]) (by simp [kOkS]) (Nat.le_of_ble_eq_true rfl) (Nat.le_of_ble_eq_true rfl) (Nat.le_of_ble_eq_true rfl) ?_
  rintro v M' ⟨rfl, rfl⟩
  rw [if_pred (show (tS σ).length < 2 ^ 31 by omega)]
  refine kwX7_shed_19 hC hE ?_
  simp only [kbX7_shed_19, mX7_shed, kblk, kstp, kent, kpad, kget, kst1, kst2, kc2, cond_false, cond_true, kfv, kfit, kOkf, kputv, kputD, kputG, kcpy, kcat, kRR, kNN, true_and, and_true, if_true, if_false, if_pos, Nat.reduceAdd, Nat.reduceEqDiff, Nat.reduceLeDiff, Nat.reduceLT, reduceIte, Prod.mk.injEq, eq_self, false_and, and_false, reduceCtorEq, Nat.reduceSub, List.reverse_cons, List.reverse_nil, List.nil_append, List.cons_append, Option.toList_some, Option.toList_none, not_true_eq_false, not_false_eq_true]
  refine ⟨fun h => ?_, fun h => ?_⟩
  · have hn : ¬ (0 ≤ n ∧ n < nI (tS σ).length) := fun z => by rw [if_pos z] at h; exact absurd h (by decide)
    refine kwX7_shed_34 hC hE ?_
    simp only [kbX7_shed_34, mX7_shed, kblk, kstp, kent, kpad, kget, kst1, kst2, kc2, cond_false, cond_true, kfv, kfit, kOkf, kputv, kputD, kputG, kcpy, kcat, kRR, kNN, true_and, and_true, if_true, if_false, if_pos, Nat.reduceAdd, Nat.reduceEqDiff, Nat.reduceLeDiff, Nat.reduceLT, reduceIte, Prod.mk.injEq, eq_self, false_and, and_false, reduceCtorEq, Nat.reduceSub, List.reverse_cons, List.reverse_nil, List.nil_append, List.cons_append, Option.toList_some, Option.toList_none, not_true_eq_false, not_false_eq_true]
    refine KW_callV hC (by decide +kernel) kl7_48 (by decide) ((m7_no 1)) rfl rfl (Nat.le_of_ble_eq_true rfl) rfl h7 (by simp [kOkL, kOk, h7]) (by simp [kOkS]) (Nat.le_of_ble_eq_true rfl) (Nat.le_of_ble_eq_true rfl) (Nat.le_of_ble_eq_true rfl) ?_
    rintro v M' ⟨rfl, rfl⟩
    refine kwX7_shed_39 hC hE ?_
    simp only [kbX7_shed_39, mX7_shed, kblk, kstp, kent, kpad, kget, kst1, kst2, kc2, cond_false, cond_true, kfv, kfit, kOkf, kputv, kputD, kputG, kcpy, kcat, kRR, kNN, true_and, and_true, if_true, if_false, if_pos, Nat.reduceAdd, Nat.reduceEqDiff, Nat.reduceLeDiff, Nat.reduceLT, reduceIte, Prod.mk.injEq, eq_self, false_and, and_false, reduceCtorEq, Nat.reduceSub, List.reverse_cons, List.reverse_nil, List.nil_append, List.cons_append, Option.toList_some, Option.toList_none, not_true_eq_false, not_false_eq_true]
    exact ⟨Or.inr ⟨hn, rfl, mPub_no ht hm 1⟩, trivial, Nat.le_refl _, Nat.le_refl _⟩
  · have hn : 0 ≤ n ∧ n < nI (tS σ).length := Classical.byContradiction fun z => h (if_neg z)
    obtain ⟨i, hi, rfl⟩ := in_range (show (tS σ).length < 2 ^ 31 by omega) hn
    have q9 := hm0.2.1 i _ (List.getElem?_eq_getElem hi)
    refine kwX7_shed_22 hC hE ?_
    simp only [kbX7_shed_22, mX7_shed, kblk, kstp, kent, kpad, kget, kst1, kst2, kc2, cond_false, cond_true, kfv, kfit, kOkf, kputv, kputD, kputG, kcpy, kcat, kRR, kNN, true_and, and_true, if_true, if_false, if_pos, Nat.reduceAdd, Nat.reduceEqDiff, Nat.reduceLeDiff, Nat.reduceLT, reduceIte, Prod.mk.injEq, eq_self, false_and, and_false, reduceCtorEq, Nat.reduceSub, List.reverse_cons, List.reverse_nil, List.nil_append, List.cons_append, Option.toList_some, Option.toList_none, not_true_eq_false, not_false_eq_true, h7, hx, l9, n9, nI_clamp (show i < 2 ^ 31 by omega), q9]
    refine ⟨vp_in_nI (show i < 20 by omega) (by omega), ?_⟩
    refine kwX7_shed_39 hC hE ?_
    simp only [kbX7_shed_39, mX7_shed, kblk, kstp, kent, kpad, kget, kst1, kst2, kc2, cond_false, cond_true, kfv, kfit, kOkf, kputv, kputD, kputG, kcpy, kcat, kRR, kNN, true_and, and_true, if_true, if_false, if_pos, Nat.reduceAdd, Nat.reduceEqDiff, Nat.reduceLeDiff, Nat.reduceLT, reduceIte, Prod.mk.injEq, eq_self, false_and, and_false, reduceCtorEq, Nat.reduceSub, List.reverse_cons, List.reverse_nil, List.nil_append, List.cons_append, Option.toList_some, Option.toList_none, not_true_eq_false, not_false_eq_true]
    exact ⟨Or.inl ⟨i, _, rfl, List.getElem?_eq_getElem hi, rfl, mPub_0 ht hm⟩, trivial, Nat.le_refl _, Nat.le_refl _⟩
end M7C

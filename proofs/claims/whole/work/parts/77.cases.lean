/-! The law's cases. -/
theorem lg_self (x : Int64) : lg_cmp x x = 0 := by
  unfold lg_cmp
  simp
theorem rep_agree {L : Nat} {D D' : KI → Nat → Int32} {σ : KT} (h : kRep L D σ) (ho : ∀ i : KI, i.2.1 = L → D' i = D i) : kRep L D' σ := by
  have e : ∀ a b, D' (a, L, b) = D (a, L, b) := fun a b => ho _ rfl
  simp only [kRep, kOld, rowRep, e] at h ⊢
  exact h
theorem top_agree {D D' : KI → Nat → Int32} {σ : KT} (h : mTop D σ) (ho : ∀ i : KI, i.2.1 ≠ 0 → i.2.1 ≠ 1 → D' i = D i) : mTop D' σ := by
  have e : ∀ a b, D' (a, 4, b) = D (a, 4, b) := fun a b => ho _ (by show (4 : Nat) ≠ 0; decide) (by show (4 : Nat) ≠ 1; decide)
  simp only [mTop, e] at h ⊢
  exact h
theorem st_agree {D D' : KI → Nat → Int32} {σ : KT} (h : mSt 2 D σ) (ho : ∀ i : KI, i.2.1 ≠ 0 → i.2.1 ≠ 1 → D' i = D i) : mSt 2 D' σ :=
  mSt_off h (ho _ (by decide) (by decide)) (fun k => ho _ (by show (2 : Nat) ≠ 0; decide) (by show (2 : Nat) ≠ 1; decide))
section CASES
variable {X : KX} {L : Nat} {xs : Nat → Int32} {E : KEnd} {D : KI → Nat → Int32} {G : KI → Nat → Int64} {σ : KT} {b0 h0 i cs sl : Nat}
theorem m7_thrown : SpQ mX7_thrown 0 0 [kR (some (7, 4, 0))] (km D G) (fun v M' => v = some (kI (D (7, 4, 0) 0)) ∧ M' = km D G) := by
  refine SpQ_of (own := 7) (ini := false) (by decide +kernel) rfl (by decide) (Nat.le_of_ble_eq_true rfl) ?_
  intro X hC hE hL0
  have h7 := mLive7
  refine kwX7_thrown_0 hC hE ?_
  simp only [kbX7_thrown_0, mX7_thrown, kblk, kstp, kent, kpad, kget, kst1, kst2, kc2, cond_false, cond_true, kfv, kfit, kOkf, kputv, kputD, kputG, kcpy, kcat, kRR, kNN, true_and, and_true, if_true, if_false, if_pos, Nat.reduceAdd, Nat.reduceEqDiff, Nat.reduceLeDiff, Nat.reduceLT, reduceIte, Prod.mk.injEq, eq_self, false_and, and_false, reduceCtorEq, Nat.reduceSub, List.reverse_cons, List.reverse_nil, List.nil_append, List.cons_append, Option.toList_some, Option.toList_none, not_true_eq_false, not_false_eq_true, h7]
  exact ⟨⟨rfl, rfl⟩, trivial, Nat.le_refl _, Nat.le_refl _⟩
/-- what is owed behind a case -/
def lNext (X : KX) (b0 i cs sl : Nat) : Prop := ∀ (D' : KI → Nat → Int32) (G' : KI → Nat → Int64) (σ' : KT), kRep 0 D' σ' → mTop D' σ' → mSt 2 D' σ' → ((∃ h, kWf0 (b0 + 200) h 0 h σ') ∧ tG σ' ≤ 90) → KW X 1458 [some (kR (some (13, 0, 0))), some (kR (some (5, 9, 0))), some (kR (some (7, 4, 0))), some (kR (some (12, 9, 0))), some (kI (nI i)), none, none, none, none] [] (km D' G') (cs + 852) (sl + 6520)
theorem case_stretch (hC : KC X mL_law 8 false (some (L, xs)) 601024 7293034) (hCX : KCX X) (hE : KRet X mL_law E) (hL : L ≤ 2048) (hi : i + 4 ≤ L) (hr : kRep 0 D σ) (ht : mTop D σ) (hm : mSt 2 D σ) (hw : kWf0 b0 h0 0 h0 σ) (hG : tG σ ≤ 90) (hb : b0 ≤ 110000) (hcs : cs + 852 ≤ 601024) (hsl : sl + 6520 ≤ 7293034) (next : lNext X b0 i cs sl) : KW X 140 [some (kR (some (13, 0, 0))), some (kR (some (5, 9, 0))), some (kR (some (7, 4, 0))), some (kR (some (12, 9, 0))), some (kI (nI i)), none, none, none, none] [] (km D G) cs sl := by
  have hs := hw.1
  have hbool := hw.2.2.2.2.2.2
  have hfresh : tC σ < 20 → tZ σ 1 (tC σ) = -1 ∧ tZ σ 4 (tC σ) = 0 := fun h => ⟨(hw.2.2.2.2.2.1.1 _ (Nat.le_refl _) h).1, (hw.2.2.2.2.2.1.1 _ (Nat.le_refl _) h).2.2.2⟩
  obtain ⟨bC, bL, bG, -⟩ := hw.1.1
  have hx5 := kx_live
  have h7 := mLive7
  have hx12 := kx12_live
  have e1 : nI i + 1 = nI (i + 1) := nI_add i 1
  have e2 : nI i + 2 = nI (i + 2) := nI_add i 2
  have e3 : nI i + 3 = nI (i + 3) := nI_add i 3
  have c1 := nI_clamp (show i + 1 < 2 ^ 31 by omega)
  have c2 := nI_clamp (show i + 2 < 2 ^ 31 by omega)
  have c3 := nI_clamp (show i + 3 < 2 ^ 31 by omega)
  have v1 : vp_in (nI (i + 1)) L := vp_in_nI (show i + 1 < L by omega) (by omega)
  have v2 : vp_in (nI (i + 2)) L := vp_in_nI (show i + 2 < L by omega) (by omega)
  have v3 : vp_in (nI (i + 3)) L := vp_in_nI (show i + 3 < L by omega) (by omega)
  have hwf := w_stretch hw hG (b2 := b0 + 200) (Nat.le_refl _) (xs (i + 1))
  generalize hrr : (rStretch σ (xs (i + 1))) = r at hwf
  have fin : ∀ (D2 : KI → Nat → Int32) (G2 : KI → Nat → Int64) (a b : Int32), kRep 0 D2 r.2.2 → mTop D2 r.2.2 → mSt 2 D2 r.2.2 → KW X 193 [some (kR (some (13, 0, 0))), some (kR (some (5, 9, 0))), some (kR (some (7, 4, 0))), some (kR (some (12, 9, 0))), some (kI (nI i)), some (kI a), some (kI b), none, none] [] (km D2 G2) (cs + 2 + 0 + 0) (sl + 12 + 0 + 0) := by
    intro D2 G2 a b q1 q2 q3
    refine kwL_law_193 hC hE ?_
    simp only [kbL_law_193, mL_law, kblk, kstp, kent, kpad, kget, kst1, kst2, kc2, cond_false, cond_true, kfv, kfit, kOkf, kputv, kputD, kputG, kcpy, kcat, kRR, kNN, true_and, and_true, if_true, if_false, if_pos, Nat.reduceAdd, Nat.reduceEqDiff, Nat.reduceLeDiff, Nat.reduceLT, reduceIte, Prod.mk.injEq, eq_self, false_and, and_false, reduceCtorEq, Nat.reduceSub, List.reverse_cons, List.reverse_nil, List.nil_append, List.cons_append, Option.toList_some, Option.toList_none, not_true_eq_false, not_false_eq_true]
    exact KW.widen (by omega) (by omega) (KW.le (by simp [kLE]) (next D2 G2 r.2.2 q1 q2 q3 hwf))
  refine kwL_law_140 hC hE ?_
  simp only [kbL_law_140, mL_law, kblk, kstp, kent, kpad, kget, kst1, kst2, kc2, cond_false, cond_true, kfv, kfit, kOkf, kputv, kputD, kputG, kcpy, kcat, kRR, kNN, true_and, and_true, if_true, if_false, if_pos, Nat.reduceAdd, Nat.reduceEqDiff, Nat.reduceLeDiff, Nat.reduceLT, reduceIte, Prod.mk.injEq, eq_self, false_and, and_false, reduceCtorEq, Nat.reduceSub, List.reverse_cons, List.reverse_nil, List.nil_append, List.cons_append, Option.toList_some, Option.toList_none, not_true_eq_false, not_false_eq_true, e1, e2, e3, c1, c2, c3, nI_1]
  refine ⟨v1, ?_⟩
  refine KW_callSW hC hCX (by decide +kernel) kl8_84 kcwL_stretch (by decide) ((l_stretch hr hw hG (xs (i + 1)))) rfl rfl (by simp [kOkL, kOk, hx5, h7, hx12]) (by simp [kOkS, kOk, hx5, h7, hx12]) (Nat.le_of_ble_eq_true rfl) (by omega) (by omega) ?_
  rintro v M' ⟨rfl, D1, G1, rfl, hr1, ho1, hout⟩
  have ht1 := top_agree ht ho1
  have hm1 := st_agree hm ho1
  rw [hrr] at hr1 hout ⊢
  refine kwL_law_151 hC hE ?_
  simp only [kbL_law_151, mL_law, kblk, kstp, kent, kpad, kget, kst1, kst2, kc2, cond_false, cond_true, kfv, kfit, kOkf, kputv, kputD, kputG, kcpy, kcat, kRR, kNN, true_and, and_true, if_true, if_false, if_pos, Nat.reduceAdd, Nat.reduceEqDiff, Nat.reduceLeDiff, Nat.reduceLT, reduceIte, Prod.mk.injEq, eq_self, false_and, and_false, reduceCtorEq, Nat.reduceSub, List.reverse_cons, List.reverse_nil, List.nil_append, List.cons_append, Option.toList_some, Option.toList_none, not_true_eq_false, not_false_eq_true, e1, e2, e3, c1, c2, c3, nI_1]
  refine ⟨v1, ?_⟩
  refine KW_callV hC (by decide +kernel) kl8_89 (by decide) ((m7_stretch ht1 hm1 hs (xs (i + 1)))) rfl rfl (Nat.le_of_ble_eq_true rfl) rfl h7 (by simp [kOkL, kOk, hx5, h7, hx12]) (by simp [kOkS, kOk, hx5, h7, hx12]) (Nat.le_of_ble_eq_true rfl) (by omega) (by omega) ?_
  rintro v M' hq
  obtain ⟨⟨y, rfl, hy⟩, D2, rfl, hthr, ht2, hm2, ho2⟩ := n_stretch hs hq
  rw [hrr] at hy hthr ht2 hm2
  have hr2 : kRep 0 D2 r.2.2 := rep_agree hr1 (fun j hj => ho2 j (Or.inl (by omega)))
  refine kwL_law_163 hC hE ?_
  simp only [kbL_law_163, mL_law, kblk, kstp, kent, kpad, kget, kst1, kst2, kc2, cond_false, cond_true, kfv, kfit, kOkf, kputv, kputD, kputG, kcpy, kcat, kRR, kNN, true_and, and_true, if_true, if_false, if_pos, Nat.reduceAdd, Nat.reduceEqDiff, Nat.reduceLeDiff, Nat.reduceLT, reduceIte, Prod.mk.injEq, eq_self, false_and, and_false, reduceCtorEq, Nat.reduceSub, List.reverse_cons, List.reverse_nil, List.nil_append, List.cons_append, Option.toList_some, Option.toList_none, not_true_eq_false, not_false_eq_true]
  refine KW_callV hC (by decide +kernel) kl8_90 (by decide) ((m7_thrown)) rfl rfl (Nat.le_of_ble_eq_true rfl) rfl h7 (by simp [kOkL, kOk, hx5, h7, hx12]) (by simp [kOkS, kOk, hx5, h7, hx12]) (Nat.le_of_ble_eq_true rfl) (by omega) (by omega) ?_
  rintro v M' ⟨rfl, rfl⟩
  rw [hthr]
  refine kwL_law_169 hC hE ?_
  simp only [kbL_law_169, mL_law, kblk, kstp, kent, kpad, kget, kst1, kst2, kc2, cond_false, cond_true, kfv, kfit, kOkf, kputv, kputD, kputG, kcpy, kcat, kRR, kNN, true_and, and_true, if_true, if_false, if_pos, Nat.reduceAdd, Nat.reduceEqDiff, Nat.reduceLeDiff, Nat.reduceLT, reduceIte, Prod.mk.injEq, eq_self, false_and, and_false, reduceCtorEq, Nat.reduceSub, List.reverse_cons, List.reverse_nil, List.nil_append, List.cons_append, Option.toList_some, Option.toList_none, not_true_eq_false, not_false_eq_true]
  refine ⟨fun _ => ?_, fun z => z.elim⟩
  refine kwL_law_176 hC hE ?_
  simp only [kbL_law_176, mL_law, kblk, kstp, kent, kpad, kget, kst1, kst2, kc2, cond_false, cond_true, kfv, kfit, kOkf, kputv, kputD, kputG, kcpy, kcat, kRR, kNN, true_and, and_true, if_true, if_false, if_pos, Nat.reduceAdd, Nat.reduceEqDiff, Nat.reduceLeDiff, Nat.reduceLT, reduceIte, Prod.mk.injEq, eq_self, false_and, and_false, reduceCtorEq, Nat.reduceSub, List.reverse_cons, List.reverse_nil, List.nil_append, List.cons_append, Option.toList_some, Option.toList_none, not_true_eq_false, not_false_eq_true]
  refine ⟨fun _ => fin D2 G1 _ _ hr2 ht2 hm2, fun z => ?_⟩
  have ho : G1 (12, 9, 0) 0 = y.toInt64 := by rw [hout z, hy z]
  refine kwL_law_181 hC hE ?_
  simp only [kbL_law_181, mL_law, kblk, kstp, kent, kpad, kget, kst1, kst2, kc2, cond_false, cond_true, kfv, kfit, kOkf, kputv, kputD, kputG, kcpy, kcat, kRR, kNN, true_and, and_true, if_true, if_false, if_pos, Nat.reduceAdd, Nat.reduceEqDiff, Nat.reduceLeDiff, Nat.reduceLT, reduceIte, Prod.mk.injEq, eq_self, false_and, and_false, reduceCtorEq, Nat.reduceSub, List.reverse_cons, List.reverse_nil, List.nil_append, List.cons_append, Option.toList_some, Option.toList_none, not_true_eq_false, not_false_eq_true, hx12, cl0, ho, lg_self]
  refine ⟨vp_in_nI (show 0 < 1 by decide) (by decide), fun _ => fin D2 G1 _ _ hr2 ht2 hm2, fun z => z.elim⟩
theorem case_addChair (hC : KC X mL_law 8 false (some (L, xs)) 601024 7293034) (hCX : KCX X) (hE : KRet X mL_law E) (hL : L ≤ 2048) (hi : i + 4 ≤ L) (hr : kRep 0 D σ) (ht : mTop D σ) (hm : mSt 2 D σ) (hw : kWf0 b0 h0 0 h0 σ) (hG : tG σ ≤ 90) (hb : b0 ≤ 110000) (hcs : cs + 852 ≤ 601024) (hsl : sl + 6520 ≤ 7293034) (next : lNext X b0 i cs sl) : KW X 196 [some (kR (some (13, 0, 0))), some (kR (some (5, 9, 0))), some (kR (some (7, 4, 0))), some (kR (some (12, 9, 0))), some (kI (nI i)), none, none, none, none] [] (km D G) cs sl := by
  have hs := hw.1
  have hbool := hw.2.2.2.2.2.2
  have hfresh : tC σ < 20 → tZ σ 1 (tC σ) = -1 ∧ tZ σ 4 (tC σ) = 0 := fun h => ⟨(hw.2.2.2.2.2.1.1 _ (Nat.le_refl _) h).1, (hw.2.2.2.2.2.1.1 _ (Nat.le_refl _) h).2.2.2⟩
  obtain ⟨bC, bL, bG, -⟩ := hw.1.1
  have hx5 := kx_live
  have h7 := mLive7
  have hx12 := kx12_live
  have e1 : nI i + 1 = nI (i + 1) := nI_add i 1
  have e2 : nI i + 2 = nI (i + 2) := nI_add i 2
  have e3 : nI i + 3 = nI (i + 3) := nI_add i 3
  have c1 := nI_clamp (show i + 1 < 2 ^ 31 by omega)
  have c2 := nI_clamp (show i + 2 < 2 ^ 31 by omega)
  have c3 := nI_clamp (show i + 3 < 2 ^ 31 by omega)
  have v1 : vp_in (nI (i + 1)) L := vp_in_nI (show i + 1 < L by omega) (by omega)
  have v2 : vp_in (nI (i + 2)) L := vp_in_nI (show i + 2 < L by omega) (by omega)
  have v3 : vp_in (nI (i + 3)) L := vp_in_nI (show i + 3 < L by omega) (by omega)
  have hwf := w_addChair hw hG (b2 := b0 + 200) (Nat.le_refl _) (xs (i + 1))
  generalize hrr : (rAddChair σ (xs (i + 1))) = r at hwf
  have fin : ∀ (D2 : KI → Nat → Int32) (G2 : KI → Nat → Int64) (a b : Int32), kRep 0 D2 r.2.2 → mTop D2 r.2.2 → mSt 2 D2 r.2.2 → KW X 249 [some (kR (some (13, 0, 0))), some (kR (some (5, 9, 0))), some (kR (some (7, 4, 0))), some (kR (some (12, 9, 0))), some (kI (nI i)), some (kI a), some (kI b), none, none] [] (km D2 G2) (cs + 2 + 0 + 0) (sl + 12 + 0 + 0) := by
    intro D2 G2 a b q1 q2 q3
    refine kwL_law_249 hC hE ?_
    simp only [kbL_law_249, mL_law, kblk, kstp, kent, kpad, kget, kst1, kst2, kc2, cond_false, cond_true, kfv, kfit, kOkf, kputv, kputD, kputG, kcpy, kcat, kRR, kNN, true_and, and_true, if_true, if_false, if_pos, Nat.reduceAdd, Nat.reduceEqDiff, Nat.reduceLeDiff, Nat.reduceLT, reduceIte, Prod.mk.injEq, eq_self, false_and, and_false, reduceCtorEq, Nat.reduceSub, List.reverse_cons, List.reverse_nil, List.nil_append, List.cons_append, Option.toList_some, Option.toList_none, not_true_eq_false, not_false_eq_true]
    exact KW.widen (by omega) (by omega) (KW.le (by simp [kLE]) (next D2 G2 r.2.2 q1 q2 q3 hwf))
  refine kwL_law_196 hC hE ?_
  simp only [kbL_law_196, mL_law, kblk, kstp, kent, kpad, kget, kst1, kst2, kc2, cond_false, cond_true, kfv, kfit, kOkf, kputv, kputD, kputG, kcpy, kcat, kRR, kNN, true_and, and_true, if_true, if_false, if_pos, Nat.reduceAdd, Nat.reduceEqDiff, Nat.reduceLeDiff, Nat.reduceLT, reduceIte, Prod.mk.injEq, eq_self, false_and, and_false, reduceCtorEq, Nat.reduceSub, List.reverse_cons, List.reverse_nil, List.nil_append, List.cons_append, Option.toList_some, Option.toList_none, not_true_eq_false, not_false_eq_true, e1, e2, e3, c1, c2, c3, nI_1]
  refine ⟨v1, ?_⟩
  refine KW_callSW hC hCX (by decide +kernel) kl8_93 kcwL_addChair (by decide) ((l_addChair hr hw hG (xs (i + 1)))) rfl rfl (by simp [kOkL, kOk, hx5, h7, hx12]) (by simp [kOkS, kOk, hx5, h7, hx12]) (Nat.le_of_ble_eq_true rfl) (by omega) (by omega) ?_
  rintro v M' ⟨rfl, D1, G1, rfl, hr1, ho1, hout⟩
  have ht1 := top_agree ht ho1
  have hm1 := st_agree hm ho1
  rw [hrr] at hr1 hout ⊢
  refine kwL_law_207 hC hE ?_
  simp only [kbL_law_207, mL_law, kblk, kstp, kent, kpad, kget, kst1, kst2, kc2, cond_false, cond_true, kfv, kfit, kOkf, kputv, kputD, kputG, kcpy, kcat, kRR, kNN, true_and, and_true, if_true, if_false, if_pos, Nat.reduceAdd, Nat.reduceEqDiff, Nat.reduceLeDiff, Nat.reduceLT, reduceIte, Prod.mk.injEq, eq_self, false_and, and_false, reduceCtorEq, Nat.reduceSub, List.reverse_cons, List.reverse_nil, List.nil_append, List.cons_append, Option.toList_some, Option.toList_none, not_true_eq_false, not_false_eq_true, e1, e2, e3, c1, c2, c3, nI_1]
  refine ⟨v1, ?_⟩
  refine KW_callV hC (by decide +kernel) kl8_95 (by decide) ((m7_addChair ht1 hm1 hs hfresh (xs (i + 1)))) rfl rfl (Nat.le_of_ble_eq_true rfl) rfl h7 (by simp [kOkL, kOk, hx5, h7, hx12]) (by simp [kOkS, kOk, hx5, h7, hx12]) (Nat.le_of_ble_eq_true rfl) (by omega) (by omega) ?_
  rintro v M' hq
  obtain ⟨⟨y, rfl, hy⟩, D2, rfl, hthr, ht2, hm2, ho2⟩ := n_addChair hs hq
  rw [hrr] at hy hthr ht2 hm2
  have hr2 : kRep 0 D2 r.2.2 := rep_agree hr1 (fun j hj => ho2 j (Or.inl (by omega)))
  refine kwL_law_219 hC hE ?_
  simp only [kbL_law_219, mL_law, kblk, kstp, kent, kpad, kget, kst1, kst2, kc2, cond_false, cond_true, kfv, kfit, kOkf, kputv, kputD, kputG, kcpy, kcat, kRR, kNN, true_and, and_true, if_true, if_false, if_pos, Nat.reduceAdd, Nat.reduceEqDiff, Nat.reduceLeDiff, Nat.reduceLT, reduceIte, Prod.mk.injEq, eq_self, false_and, and_false, reduceCtorEq, Nat.reduceSub, List.reverse_cons, List.reverse_nil, List.nil_append, List.cons_append, Option.toList_some, Option.toList_none, not_true_eq_false, not_false_eq_true]
  refine KW_callV hC (by decide +kernel) kl8_90 (by decide) ((m7_thrown)) rfl rfl (Nat.le_of_ble_eq_true rfl) rfl h7 (by simp [kOkL, kOk, hx5, h7, hx12]) (by simp [kOkS, kOk, hx5, h7, hx12]) (Nat.le_of_ble_eq_true rfl) (by omega) (by omega) ?_
  rintro v M' ⟨rfl, rfl⟩
  rw [hthr]
  refine kwL_law_225 hC hE ?_
  simp only [kbL_law_225, mL_law, kblk, kstp, kent, kpad, kget, kst1, kst2, kc2, cond_false, cond_true, kfv, kfit, kOkf, kputv, kputD, kputG, kcpy, kcat, kRR, kNN, true_and, and_true, if_true, if_false, if_pos, Nat.reduceAdd, Nat.reduceEqDiff, Nat.reduceLeDiff, Nat.reduceLT, reduceIte, Prod.mk.injEq, eq_self, false_and, and_false, reduceCtorEq, Nat.reduceSub, List.reverse_cons, List.reverse_nil, List.nil_append, List.cons_append, Option.toList_some, Option.toList_none, not_true_eq_false, not_false_eq_true]
  refine ⟨fun _ => ?_, fun z => z.elim⟩
  refine kwL_law_232 hC hE ?_
  simp only [kbL_law_232, mL_law, kblk, kstp, kent, kpad, kget, kst1, kst2, kc2, cond_false, cond_true, kfv, kfit, kOkf, kputv, kputD, kputG, kcpy, kcat, kRR, kNN, true_and, and_true, if_true, if_false, if_pos, Nat.reduceAdd, Nat.reduceEqDiff, Nat.reduceLeDiff, Nat.reduceLT, reduceIte, Prod.mk.injEq, eq_self, false_and, and_false, reduceCtorEq, Nat.reduceSub, List.reverse_cons, List.reverse_nil, List.nil_append, List.cons_append, Option.toList_some, Option.toList_none, not_true_eq_false, not_false_eq_true]
  refine ⟨fun _ => fin D2 G1 _ _ hr2 ht2 hm2, fun z => ?_⟩
  have ho : G1 (12, 9, 0) 0 = y.toInt64 := by rw [hout z, hy z]
  refine kwL_law_237 hC hE ?_
  simp only [kbL_law_237, mL_law, kblk, kstp, kent, kpad, kget, kst1, kst2, kc2, cond_false, cond_true, kfv, kfit, kOkf, kputv, kputD, kputG, kcpy, kcat, kRR, kNN, true_and, and_true, if_true, if_false, if_pos, Nat.reduceAdd, Nat.reduceEqDiff, Nat.reduceLeDiff, Nat.reduceLT, reduceIte, Prod.mk.injEq, eq_self, false_and, and_false, reduceCtorEq, Nat.reduceSub, List.reverse_cons, List.reverse_nil, List.nil_append, List.cons_append, Option.toList_some, Option.toList_none, not_true_eq_false, not_false_eq_true, hx12, cl0, ho, lg_self]
  refine ⟨vp_in_nI (show 0 < 1 by decide) (by decide), fun _ => fin D2 G1 _ _ hr2 ht2 hm2, fun z => z.elim⟩
theorem case_want (hC : KC X mL_law 8 false (some (L, xs)) 601024 7293034) (hCX : KCX X) (hE : KRet X mL_law E) (hL : L ≤ 2048) (hi : i + 4 ≤ L) (hr : kRep 0 D σ) (ht : mTop D σ) (hm : mSt 2 D σ) (hw : kWf0 b0 h0 0 h0 σ) (hG : tG σ ≤ 90) (hb : b0 ≤ 110000) (hcs : cs + 852 ≤ 601024) (hsl : sl + 6520 ≤ 7293034) (next : lNext X b0 i cs sl) : KW X 252 [some (kR (some (13, 0, 0))), some (kR (some (5, 9, 0))), some (kR (some (7, 4, 0))), some (kR (some (12, 9, 0))), some (kI (nI i)), none, none, none, none] [] (km D G) cs sl := by
  have hs := hw.1
  have hbool := hw.2.2.2.2.2.2
  have hfresh : tC σ < 20 → tZ σ 1 (tC σ) = -1 ∧ tZ σ 4 (tC σ) = 0 := fun h => ⟨(hw.2.2.2.2.2.1.1 _ (Nat.le_refl _) h).1, (hw.2.2.2.2.2.1.1 _ (Nat.le_refl _) h).2.2.2⟩
  obtain ⟨bC, bL, bG, -⟩ := hw.1.1
  have hx5 := kx_live
  have h7 := mLive7
  have hx12 := kx12_live
  have e1 : nI i + 1 = nI (i + 1) := nI_add i 1
  have e2 : nI i + 2 = nI (i + 2) := nI_add i 2
  have e3 : nI i + 3 = nI (i + 3) := nI_add i 3
  have c1 := nI_clamp (show i + 1 < 2 ^ 31 by omega)
  have c2 := nI_clamp (show i + 2 < 2 ^ 31 by omega)
  have c3 := nI_clamp (show i + 3 < 2 ^ 31 by omega)
  have v1 : vp_in (nI (i + 1)) L := vp_in_nI (show i + 1 < L by omega) (by omega)
  have v2 : vp_in (nI (i + 2)) L := vp_in_nI (show i + 2 < L by omega) (by omega)
  have v3 : vp_in (nI (i + 3)) L := vp_in_nI (show i + 3 < L by omega) (by omega)
  have hwf := w_want hw hG (b2 := b0 + 200) (Nat.le_refl _) (xs (i + 1))
  generalize hrr : (rWant σ (xs (i + 1))) = r at hwf
  have fin : ∀ (D2 : KI → Nat → Int32) (G2 : KI → Nat → Int64) (a b : Int32), kRep 0 D2 r.2.2 → mTop D2 r.2.2 → mSt 2 D2 r.2.2 → KW X 305 [some (kR (some (13, 0, 0))), some (kR (some (5, 9, 0))), some (kR (some (7, 4, 0))), some (kR (some (12, 9, 0))), some (kI (nI i)), some (kI a), some (kI b), none, none] [] (km D2 G2) (cs + 1 + 0 + 0) (sl + 6 + 0 + 0) := by
    intro D2 G2 a b q1 q2 q3
    refine kwL_law_305 hC hE ?_
    simp only [kbL_law_305, mL_law, kblk, kstp, kent, kpad, kget, kst1, kst2, kc2, cond_false, cond_true, kfv, kfit, kOkf, kputv, kputD, kputG, kcpy, kcat, kRR, kNN, true_and, and_true, if_true, if_false, if_pos, Nat.reduceAdd, Nat.reduceEqDiff, Nat.reduceLeDiff, Nat.reduceLT, reduceIte, Prod.mk.injEq, eq_self, false_and, and_false, reduceCtorEq, Nat.reduceSub, List.reverse_cons, List.reverse_nil, List.nil_append, List.cons_append, Option.toList_some, Option.toList_none, not_true_eq_false, not_false_eq_true]
    exact KW.widen (by omega) (by omega) (KW.le (by simp [kLE]) (next D2 G2 r.2.2 q1 q2 q3 hwf))
  refine kwL_law_252 hC hE ?_
  simp only [kbL_law_252, mL_law, kblk, kstp, kent, kpad, kget, kst1, kst2, kc2, cond_false, cond_true, kfv, kfit, kOkf, kputv, kputD, kputG, kcpy, kcat, kRR, kNN, true_and, and_true, if_true, if_false, if_pos, Nat.reduceAdd, Nat.reduceEqDiff, Nat.reduceLeDiff, Nat.reduceLT, reduceIte, Prod.mk.injEq, eq_self, false_and, and_false, reduceCtorEq, Nat.reduceSub, List.reverse_cons, List.reverse_nil, List.nil_append, List.cons_append, Option.toList_some, Option.toList_none, not_true_eq_false, not_false_eq_true, e1, e2, e3, c1, c2, c3, nI_1]
  refine ⟨v1, ?_⟩
  refine KW_callSW hC hCX (by decide +kernel) kl8_96 kcwL_want (by decide) ((l_want hr hw hG (xs (i + 1)))) rfl rfl (by simp [kOkL, kOk, hx5, h7, hx12]) (by simp [kOkS, kOk, hx5, h7, hx12]) (Nat.le_of_ble_eq_true rfl) (by omega) (by omega) ?_
  rintro v M' ⟨rfl, D1, G1, rfl, hr1, ho1, hout⟩
  have ht1 := top_agree ht ho1
  have hm1 := st_agree hm ho1
  rw [hrr] at hr1 hout ⊢
  refine kwL_law_263 hC hE ?_
  simp only [kbL_law_263, mL_law, kblk, kstp, kent, kpad, kget, kst1, kst2, kc2, cond_false, cond_true, kfv, kfit, kOkf, kputv, kputD, kputG, kcpy, kcat, kRR, kNN, true_and, and_true, if_true, if_false, if_pos, Nat.reduceAdd, Nat.reduceEqDiff, Nat.reduceLeDiff, Nat.reduceLT, reduceIte, Prod.mk.injEq, eq_self, false_and, and_false, reduceCtorEq, Nat.reduceSub, List.reverse_cons, List.reverse_nil, List.nil_append, List.cons_append, Option.toList_some, Option.toList_none, not_true_eq_false, not_false_eq_true, e1, e2, e3, c1, c2, c3, nI_1]
  refine ⟨v1, ?_⟩
  refine KW_callV hC (by decide +kernel) kl8_98 (by decide) ((m7_want ht1 hm1 (xs (i + 1)))) rfl rfl (Nat.le_of_ble_eq_true rfl) rfl h7 (by simp [kOkL, kOk, hx5, h7, hx12]) (by simp [kOkS, kOk, hx5, h7, hx12]) (Nat.le_of_ble_eq_true rfl) (by omega) (by omega) ?_
  rintro v M' hq
  obtain ⟨⟨y, rfl, hy⟩, D2, rfl, hthr, ht2, hm2, ho2⟩ := n_want hs hq
  rw [hrr] at hy hthr ht2 hm2
  have hr2 : kRep 0 D2 r.2.2 := rep_agree hr1 (fun j hj => ho2 j (Or.inl (by omega)))
  refine kwL_law_275 hC hE ?_
  simp only [kbL_law_275, mL_law, kblk, kstp, kent, kpad, kget, kst1, kst2, kc2, cond_false, cond_true, kfv, kfit, kOkf, kputv, kputD, kputG, kcpy, kcat, kRR, kNN, true_and, and_true, if_true, if_false, if_pos, Nat.reduceAdd, Nat.reduceEqDiff, Nat.reduceLeDiff, Nat.reduceLT, reduceIte, Prod.mk.injEq, eq_self, false_and, and_false, reduceCtorEq, Nat.reduceSub, List.reverse_cons, List.reverse_nil, List.nil_append, List.cons_append, Option.toList_some, Option.toList_none, not_true_eq_false, not_false_eq_true]
  refine KW_callV hC (by decide +kernel) kl8_90 (by decide) ((m7_thrown)) rfl rfl (Nat.le_of_ble_eq_true rfl) rfl h7 (by simp [kOkL, kOk, hx5, h7, hx12]) (by simp [kOkS, kOk, hx5, h7, hx12]) (Nat.le_of_ble_eq_true rfl) (by omega) (by omega) ?_
  rintro v M' ⟨rfl, rfl⟩
  rw [hthr]
  refine kwL_law_281 hC hE ?_
  simp only [kbL_law_281, mL_law, kblk, kstp, kent, kpad, kget, kst1, kst2, kc2, cond_false, cond_true, kfv, kfit, kOkf, kputv, kputD, kputG, kcpy, kcat, kRR, kNN, true_and, and_true, if_true, if_false, if_pos, Nat.reduceAdd, Nat.reduceEqDiff, Nat.reduceLeDiff, Nat.reduceLT, reduceIte, Prod.mk.injEq, eq_self, false_and, and_false, reduceCtorEq, Nat.reduceSub, List.reverse_cons, List.reverse_nil, List.nil_append, List.cons_append, Option.toList_some, Option.toList_none, not_true_eq_false, not_false_eq_true]
  refine ⟨fun _ => ?_, fun z => z.elim⟩
  refine kwL_law_288 hC hE ?_
  simp only [kbL_law_288, mL_law, kblk, kstp, kent, kpad, kget, kst1, kst2, kc2, cond_false, cond_true, kfv, kfit, kOkf, kputv, kputD, kputG, kcpy, kcat, kRR, kNN, true_and, and_true, if_true, if_false, if_pos, Nat.reduceAdd, Nat.reduceEqDiff, Nat.reduceLeDiff, Nat.reduceLT, reduceIte, Prod.mk.injEq, eq_self, false_and, and_false, reduceCtorEq, Nat.reduceSub, List.reverse_cons, List.reverse_nil, List.nil_append, List.cons_append, Option.toList_some, Option.toList_none, not_true_eq_false, not_false_eq_true]
  refine ⟨fun _ => fin D2 G1 _ _ hr2 ht2 hm2, fun z => ?_⟩
  have ho : G1 (12, 9, 0) 0 = y.toInt64 := by rw [hout z, hy z]
  refine kwL_law_293 hC hE ?_
  simp only [kbL_law_293, mL_law, kblk, kstp, kent, kpad, kget, kst1, kst2, kc2, cond_false, cond_true, kfv, kfit, kOkf, kputv, kputD, kputG, kcpy, kcat, kRR, kNN, true_and, and_true, if_true, if_false, if_pos, Nat.reduceAdd, Nat.reduceEqDiff, Nat.reduceLeDiff, Nat.reduceLT, reduceIte, Prod.mk.injEq, eq_self, false_and, and_false, reduceCtorEq, Nat.reduceSub, List.reverse_cons, List.reverse_nil, List.nil_append, List.cons_append, Option.toList_some, Option.toList_none, not_true_eq_false, not_false_eq_true, hx12, cl0, ho, lg_self]
  refine ⟨vp_in_nI (show 0 < 1 by decide) (by decide), fun _ => fin D2 G1 _ _ hr2 ht2 hm2, fun z => z.elim⟩
theorem case_addLane (hC : KC X mL_law 8 false (some (L, xs)) 601024 7293034) (hCX : KCX X) (hE : KRet X mL_law E) (hL : L ≤ 2048) (hi : i + 4 ≤ L) (hr : kRep 0 D σ) (ht : mTop D σ) (hm : mSt 2 D σ) (hw : kWf0 b0 h0 0 h0 σ) (hG : tG σ ≤ 90) (hb : b0 ≤ 110000) (hcs : cs + 852 ≤ 601024) (hsl : sl + 6520 ≤ 7293034) (next : lNext X b0 i cs sl) : KW X 308 [some (kR (some (13, 0, 0))), some (kR (some (5, 9, 0))), some (kR (some (7, 4, 0))), some (kR (some (12, 9, 0))), some (kI (nI i)), none, none, none, none] [] (km D G) cs sl := by
  have hs := hw.1
  have hbool := hw.2.2.2.2.2.2
  have hfresh : tC σ < 20 → tZ σ 1 (tC σ) = -1 ∧ tZ σ 4 (tC σ) = 0 := fun h => ⟨(hw.2.2.2.2.2.1.1 _ (Nat.le_refl _) h).1, (hw.2.2.2.2.2.1.1 _ (Nat.le_refl _) h).2.2.2⟩
  obtain ⟨bC, bL, bG, -⟩ := hw.1.1
  have hx5 := kx_live
  have h7 := mLive7
  have hx12 := kx12_live
  have e1 : nI i + 1 = nI (i + 1) := nI_add i 1
  have e2 : nI i + 2 = nI (i + 2) := nI_add i 2
  have e3 : nI i + 3 = nI (i + 3) := nI_add i 3
  have c1 := nI_clamp (show i + 1 < 2 ^ 31 by omega)
  have c2 := nI_clamp (show i + 2 < 2 ^ 31 by omega)
  have c3 := nI_clamp (show i + 3 < 2 ^ 31 by omega)
  have v1 : vp_in (nI (i + 1)) L := vp_in_nI (show i + 1 < L by omega) (by omega)
  have v2 : vp_in (nI (i + 2)) L := vp_in_nI (show i + 2 < L by omega) (by omega)
  have v3 : vp_in (nI (i + 3)) L := vp_in_nI (show i + 3 < L by omega) (by omega)
  have hwf := w_addLane hw hG (b2 := b0 + 200) (Nat.le_refl _)
  generalize hrr : (rAddLane σ) = r at hwf
  have fin : ∀ (D2 : KI → Nat → Int32) (G2 : KI → Nat → Int64) (a b : Int32), kRep 0 D2 r.2.2 → mTop D2 r.2.2 → mSt 2 D2 r.2.2 → KW X 349 [some (kR (some (13, 0, 0))), some (kR (some (5, 9, 0))), some (kR (some (7, 4, 0))), some (kR (some (12, 9, 0))), some (kI (nI i)), some (kI a), some (kI b), none, none] [] (km D2 G2) (cs + 1 + 0 + 0) (sl + 6 + 0 + 0) := by
    intro D2 G2 a b q1 q2 q3
    refine kwL_law_349 hC hE ?_
    simp only [kbL_law_349, mL_law, kblk, kstp, kent, kpad, kget, kst1, kst2, kc2, cond_false, cond_true, kfv, kfit, kOkf, kputv, kputD, kputG, kcpy, kcat, kRR, kNN, true_and, and_true, if_true, if_false, if_pos, Nat.reduceAdd, Nat.reduceEqDiff, Nat.reduceLeDiff, Nat.reduceLT, reduceIte, Prod.mk.injEq, eq_self, false_and, and_false, reduceCtorEq, Nat.reduceSub, List.reverse_cons, List.reverse_nil, List.nil_append, List.cons_append, Option.toList_some, Option.toList_none, not_true_eq_false, not_false_eq_true]
    exact KW.widen (by omega) (by omega) (KW.le (by simp [kLE]) (next D2 G2 r.2.2 q1 q2 q3 hwf))
  refine kwL_law_308 hC hE ?_
  simp only [kbL_law_308, mL_law, kblk, kstp, kent, kpad, kget, kst1, kst2, kc2, cond_false, cond_true, kfv, kfit, kOkf, kputv, kputD, kputG, kcpy, kcat, kRR, kNN, true_and, and_true, if_true, if_false, if_pos, Nat.reduceAdd, Nat.reduceEqDiff, Nat.reduceLeDiff, Nat.reduceLT, reduceIte, Prod.mk.injEq, eq_self, false_and, and_false, reduceCtorEq, Nat.reduceSub, List.reverse_cons, List.reverse_nil, List.nil_append, List.cons_append, Option.toList_some, Option.toList_none, not_true_eq_false, not_false_eq_true, e1, e2, e3, c1, c2, c3, nI_1]
  refine KW_callSW hC hCX (by decide +kernel) kl8_99 kcwL_addLane (by decide) ((l_addLane hr hw hG)) rfl rfl (by simp [kOkL, kOk, hx5, h7, hx12]) (by simp [kOkS, kOk, hx5, h7, hx12]) (Nat.le_of_ble_eq_true rfl) (by omega) (by omega) ?_
  rintro v M' ⟨rfl, D1, G1, rfl, hr1, ho1, hout⟩
  have ht1 := top_agree ht ho1
  have hm1 := st_agree hm ho1
  rw [hrr] at hr1 hout ⊢
  refine kwL_law_313 hC hE ?_
  simp only [kbL_law_313, mL_law, kblk, kstp, kent, kpad, kget, kst1, kst2, kc2, cond_false, cond_true, kfv, kfit, kOkf, kputv, kputD, kputG, kcpy, kcat, kRR, kNN, true_and, and_true, if_true, if_false, if_pos, Nat.reduceAdd, Nat.reduceEqDiff, Nat.reduceLeDiff, Nat.reduceLT, reduceIte, Prod.mk.injEq, eq_self, false_and, and_false, reduceCtorEq, Nat.reduceSub, List.reverse_cons, List.reverse_nil, List.nil_append, List.cons_append, Option.toList_some, Option.toList_none, not_true_eq_false, not_false_eq_true, e1, e2, e3, c1, c2, c3, nI_1]
  refine KW_callV hC (by decide +kernel) kl8_102 (by decide) ((m7_addLane ht1 hm1 bL)) rfl rfl (Nat.le_of_ble_eq_true rfl) rfl h7 (by simp [kOkL, kOk, hx5, h7, hx12]) (by simp [kOkS, kOk, hx5, h7, hx12]) (Nat.le_of_ble_eq_true rfl) (by omega) (by omega) ?_
  rintro v M' hq
  obtain ⟨⟨y, rfl, hy⟩, D2, rfl, hthr, ht2, hm2, ho2⟩ := n_addLane hs hq
  rw [hrr] at hy hthr ht2 hm2
  have hr2 : kRep 0 D2 r.2.2 := rep_agree hr1 (fun j hj => ho2 j (Or.inl (by omega)))
  refine kwL_law_319 hC hE ?_
  simp only [kbL_law_319, mL_law, kblk, kstp, kent, kpad, kget, kst1, kst2, kc2, cond_false, cond_true, kfv, kfit, kOkf, kputv, kputD, kputG, kcpy, kcat, kRR, kNN, true_and, and_true, if_true, if_false, if_pos, Nat.reduceAdd, Nat.reduceEqDiff, Nat.reduceLeDiff, Nat.reduceLT, reduceIte, Prod.mk.injEq, eq_self, false_and, and_false, reduceCtorEq, Nat.reduceSub, List.reverse_cons, List.reverse_nil, List.nil_append, List.cons_append, Option.toList_some, Option.toList_none, not_true_eq_false, not_false_eq_true]
  refine KW_callV hC (by decide +kernel) kl8_90 (by decide) ((m7_thrown)) rfl rfl (Nat.le_of_ble_eq_true rfl) rfl h7 (by simp [kOkL, kOk, hx5, h7, hx12]) (by simp [kOkS, kOk, hx5, h7, hx12]) (Nat.le_of_ble_eq_true rfl) (by omega) (by omega) ?_
  rintro v M' ⟨rfl, rfl⟩
  rw [hthr]
  refine kwL_law_325 hC hE ?_
  simp only [kbL_law_325, mL_law, kblk, kstp, kent, kpad, kget, kst1, kst2, kc2, cond_false, cond_true, kfv, kfit, kOkf, kputv, kputD, kputG, kcpy, kcat, kRR, kNN, true_and, and_true, if_true, if_false, if_pos, Nat.reduceAdd, Nat.reduceEqDiff, Nat.reduceLeDiff, Nat.reduceLT, reduceIte, Prod.mk.injEq, eq_self, false_and, and_false, reduceCtorEq, Nat.reduceSub, List.reverse_cons, List.reverse_nil, List.nil_append, List.cons_append, Option.toList_some, Option.toList_none, not_true_eq_false, not_false_eq_true]
  refine ⟨fun _ => ?_, fun z => z.elim⟩
  refine kwL_law_332 hC hE ?_
  simp only [kbL_law_332, mL_law, kblk, kstp, kent, kpad, kget, kst1, kst2, kc2, cond_false, cond_true, kfv, kfit, kOkf, kputv, kputD, kputG, kcpy, kcat, kRR, kNN, true_and, and_true, if_true, if_false, if_pos, Nat.reduceAdd, Nat.reduceEqDiff, Nat.reduceLeDiff, Nat.reduceLT, reduceIte, Prod.mk.injEq, eq_self, false_and, and_false, reduceCtorEq, Nat.reduceSub, List.reverse_cons, List.reverse_nil, List.nil_append, List.cons_append, Option.toList_some, Option.toList_none, not_true_eq_false, not_false_eq_true]
  refine ⟨fun _ => fin D2 G1 _ _ hr2 ht2 hm2, fun z => ?_⟩
  have ho : G1 (12, 9, 0) 0 = y.toInt64 := by rw [hout z, hy z]
  refine kwL_law_337 hC hE ?_
  simp only [kbL_law_337, mL_law, kblk, kstp, kent, kpad, kget, kst1, kst2, kc2, cond_false, cond_true, kfv, kfit, kOkf, kputv, kputD, kputG, kcpy, kcat, kRR, kNN, true_and, and_true, if_true, if_false, if_pos, Nat.reduceAdd, Nat.reduceEqDiff, Nat.reduceLeDiff, Nat.reduceLT, reduceIte, Prod.mk.injEq, eq_self, false_and, and_false, reduceCtorEq, Nat.reduceSub, List.reverse_cons, List.reverse_nil, List.nil_append, List.cons_append, Option.toList_some, Option.toList_none, not_true_eq_false, not_false_eq_true, hx12, cl0, ho, lg_self]
  refine ⟨vp_in_nI (show 0 < 1 by decide) (by decide), fun _ => fin D2 G1 _ _ hr2 ht2 hm2, fun z => z.elim⟩
theorem case_setWind (hC : KC X mL_law 8 false (some (L, xs)) 601024 7293034) (hCX : KCX X) (hE : KRet X mL_law E) (hL : L ≤ 2048) (hi : i + 4 ≤ L) (hr : kRep 0 D σ) (ht : mTop D σ) (hm : mSt 2 D σ) (hw : kWf0 b0 h0 0 h0 σ) (hG : tG σ ≤ 90) (hb : b0 ≤ 110000) (hcs : cs + 852 ≤ 601024) (hsl : sl + 6520 ≤ 7293034) (next : lNext X b0 i cs sl) : KW X 443 [some (kR (some (13, 0, 0))), some (kR (some (5, 9, 0))), some (kR (some (7, 4, 0))), some (kR (some (12, 9, 0))), some (kI (nI i)), none, none, none, none] [] (km D G) cs sl := by
  have hs := hw.1
  have hbool := hw.2.2.2.2.2.2
  have hfresh : tC σ < 20 → tZ σ 1 (tC σ) = -1 ∧ tZ σ 4 (tC σ) = 0 := fun h => ⟨(hw.2.2.2.2.2.1.1 _ (Nat.le_refl _) h).1, (hw.2.2.2.2.2.1.1 _ (Nat.le_refl _) h).2.2.2⟩
  obtain ⟨bC, bL, bG, -⟩ := hw.1.1
  have hx5 := kx_live
  have h7 := mLive7
  have hx12 := kx12_live
  have e1 : nI i + 1 = nI (i + 1) := nI_add i 1
  have e2 : nI i + 2 = nI (i + 2) := nI_add i 2
  have e3 : nI i + 3 = nI (i + 3) := nI_add i 3
  have c1 := nI_clamp (show i + 1 < 2 ^ 31 by omega)
  have c2 := nI_clamp (show i + 2 < 2 ^ 31 by omega)
  have c3 := nI_clamp (show i + 3 < 2 ^ 31 by omega)
  have v1 : vp_in (nI (i + 1)) L := vp_in_nI (show i + 1 < L by omega) (by omega)
  have v2 : vp_in (nI (i + 2)) L := vp_in_nI (show i + 2 < L by omega) (by omega)
  have v3 : vp_in (nI (i + 3)) L := vp_in_nI (show i + 3 < L by omega) (by omega)
  have hwf := w_setWind hw hG (b2 := b0 + 200) (Nat.le_refl _) (xs (i + 1)) (xs (i + 2))
  generalize hrr : (rSetWind σ (xs (i + 1)) (xs (i + 2))) = r at hwf
  have fin : ∀ (D2 : KI → Nat → Int32) (G2 : KI → Nat → Int64) (a b : Int32), kRep 0 D2 r.2.2 → mTop D2 r.2.2 → mSt 2 D2 r.2.2 → KW X 508 [some (kR (some (13, 0, 0))), some (kR (some (5, 9, 0))), some (kR (some (7, 4, 0))), some (kR (some (12, 9, 0))), some (kI (nI i)), some (kI a), some (kI b), none, none] [] (km D2 G2) (cs + 2 + 0 + 0) (sl + 12 + 0 + 0) := by
    intro D2 G2 a b q1 q2 q3
    refine kwL_law_508 hC hE ?_
    simp only [kbL_law_508, mL_law, kblk, kstp, kent, kpad, kget, kst1, kst2, kc2, cond_false, cond_true, kfv, kfit, kOkf, kputv, kputD, kputG, kcpy, kcat, kRR, kNN, true_and, and_true, if_true, if_false, if_pos, Nat.reduceAdd, Nat.reduceEqDiff, Nat.reduceLeDiff, Nat.reduceLT, reduceIte, Prod.mk.injEq, eq_self, false_and, and_false, reduceCtorEq, Nat.reduceSub, List.reverse_cons, List.reverse_nil, List.nil_append, List.cons_append, Option.toList_some, Option.toList_none, not_true_eq_false, not_false_eq_true]
    exact KW.widen (by omega) (by omega) (KW.le (by simp [kLE]) (next D2 G2 r.2.2 q1 q2 q3 hwf))
  refine kwL_law_443 hC hE ?_
  simp only [kbL_law_443, mL_law, kblk, kstp, kent, kpad, kget, kst1, kst2, kc2, cond_false, cond_true, kfv, kfit, kOkf, kputv, kputD, kputG, kcpy, kcat, kRR, kNN, true_and, and_true, if_true, if_false, if_pos, Nat.reduceAdd, Nat.reduceEqDiff, Nat.reduceLeDiff, Nat.reduceLT, reduceIte, Prod.mk.injEq, eq_self, false_and, and_false, reduceCtorEq, Nat.reduceSub, List.reverse_cons, List.reverse_nil, List.nil_append, List.cons_append, Option.toList_some, Option.toList_none, not_true_eq_false, not_false_eq_true, e1, e2, e3, c1, c2, c3, nI_1]
  refine ⟨v1, v2, ?_⟩
  refine KW_callSW hC hCX (by decide +kernel) kl8_107 kcwL_setWind (by decide) ((l_setWind hr hw hG (xs (i + 1)) (xs (i + 2)))) rfl rfl (by simp [kOkL, kOk, hx5, h7, hx12]) (by simp [kOkS, kOk, hx5, h7, hx12]) (Nat.le_of_ble_eq_true rfl) (by omega) (by omega) ?_
  rintro v M' ⟨rfl, D1, G1, rfl, hr1, ho1, hout⟩
  have ht1 := top_agree ht ho1
  have hm1 := st_agree hm ho1
  rw [hrr] at hr1 hout ⊢
  refine kwL_law_460 hC hE ?_
  simp only [kbL_law_460, mL_law, kblk, kstp, kent, kpad, kget, kst1, kst2, kc2, cond_false, cond_true, kfv, kfit, kOkf, kputv, kputD, kputG, kcpy, kcat, kRR, kNN, true_and, and_true, if_true, if_false, if_pos, Nat.reduceAdd, Nat.reduceEqDiff, Nat.reduceLeDiff, Nat.reduceLT, reduceIte, Prod.mk.injEq, eq_self, false_and, and_false, reduceCtorEq, Nat.reduceSub, List.reverse_cons, List.reverse_nil, List.nil_append, List.cons_append, Option.toList_some, Option.toList_none, not_true_eq_false, not_false_eq_true, e1, e2, e3, c1, c2, c3, nI_1]
  refine ⟨v1, v2, ?_⟩
  refine KW_callV hC (by decide +kernel) kl8_110 (by decide) ((m7_setWind ht1 hm1 (xs (i + 1)) (xs (i + 2)))) rfl rfl (Nat.le_of_ble_eq_true rfl) rfl h7 (by simp [kOkL, kOk, hx5, h7, hx12]) (by simp [kOkS, kOk, hx5, h7, hx12]) (Nat.le_of_ble_eq_true rfl) (by omega) (by omega) ?_
  rintro v M' hq
  obtain ⟨⟨y, rfl, hy⟩, D2, rfl, hthr, ht2, hm2, ho2⟩ := n_setWind hs hq
  rw [hrr] at hy hthr ht2 hm2
  have hr2 : kRep 0 D2 r.2.2 := rep_agree hr1 (fun j hj => ho2 j (Or.inl (by omega)))
  refine kwL_law_478 hC hE ?_
  simp only [kbL_law_478, mL_law, kblk, kstp, kent, kpad, kget, kst1, kst2, kc2, cond_false, cond_true, kfv, kfit, kOkf, kputv, kputD, kputG, kcpy, kcat, kRR, kNN, true_and, and_true, if_true, if_false, if_pos, Nat.reduceAdd, Nat.reduceEqDiff, Nat.reduceLeDiff, Nat.reduceLT, reduceIte, Prod.mk.injEq, eq_self, false_and, and_false, reduceCtorEq, Nat.reduceSub, List.reverse_cons, List.reverse_nil, List.nil_append, List.cons_append, Option.toList_some, Option.toList_none, not_true_eq_false, not_false_eq_true]
  refine KW_callV hC (by decide +kernel) kl8_90 (by decide) ((m7_thrown)) rfl rfl (Nat.le_of_ble_eq_true rfl) rfl h7 (by simp [kOkL, kOk, hx5, h7, hx12]) (by simp [kOkS, kOk, hx5, h7, hx12]) (Nat.le_of_ble_eq_true rfl) (by omega) (by omega) ?_
  rintro v M' ⟨rfl, rfl⟩
  rw [hthr]
  refine kwL_law_484 hC hE ?_
  simp only [kbL_law_484, mL_law, kblk, kstp, kent, kpad, kget, kst1, kst2, kc2, cond_false, cond_true, kfv, kfit, kOkf, kputv, kputD, kputG, kcpy, kcat, kRR, kNN, true_and, and_true, if_true, if_false, if_pos, Nat.reduceAdd, Nat.reduceEqDiff, Nat.reduceLeDiff, Nat.reduceLT, reduceIte, Prod.mk.injEq, eq_self, false_and, and_false, reduceCtorEq, Nat.reduceSub, List.reverse_cons, List.reverse_nil, List.nil_append, List.cons_append, Option.toList_some, Option.toList_none, not_true_eq_false, not_false_eq_true]
  refine ⟨fun _ => ?_, fun z => z.elim⟩
  refine kwL_law_491 hC hE ?_
  simp only [kbL_law_491, mL_law, kblk, kstp, kent, kpad, kget, kst1, kst2, kc2, cond_false, cond_true, kfv, kfit, kOkf, kputv, kputD, kputG, kcpy, kcat, kRR, kNN, true_and, and_true, if_true, if_false, if_pos, Nat.reduceAdd, Nat.reduceEqDiff, Nat.reduceLeDiff, Nat.reduceLT, reduceIte, Prod.mk.injEq, eq_self, false_and, and_false, reduceCtorEq, Nat.reduceSub, List.reverse_cons, List.reverse_nil, List.nil_append, List.cons_append, Option.toList_some, Option.toList_none, not_true_eq_false, not_false_eq_true]
  refine ⟨fun _ => fin D2 G1 _ _ hr2 ht2 hm2, fun z => ?_⟩
  have ho : G1 (12, 9, 0) 0 = y.toInt64 := by rw [hout z, hy z]
  refine kwL_law_496 hC hE ?_
  simp only [kbL_law_496, mL_law, kblk, kstp, kent, kpad, kget, kst1, kst2, kc2, cond_false, cond_true, kfv, kfit, kOkf, kputv, kputD, kputG, kcpy, kcat, kRR, kNN, true_and, and_true, if_true, if_false, if_pos, Nat.reduceAdd, Nat.reduceEqDiff, Nat.reduceLeDiff, Nat.reduceLT, reduceIte, Prod.mk.injEq, eq_self, false_and, and_false, reduceCtorEq, Nat.reduceSub, List.reverse_cons, List.reverse_nil, List.nil_append, List.cons_append, Option.toList_some, Option.toList_none, not_true_eq_false, not_false_eq_true, hx12, cl0, ho, lg_self]
  refine ⟨vp_in_nI (show 0 < 1 by decide) (by decide), fun _ => fin D2 G1 _ _ hr2 ht2 hm2, fun z => z.elim⟩
theorem case_join (hC : KC X mL_law 8 false (some (L, xs)) 601024 7293034) (hCX : KCX X) (hE : KRet X mL_law E) (hL : L ≤ 2048) (hi : i + 4 ≤ L) (hr : kRep 0 D σ) (ht : mTop D σ) (hm : mSt 2 D σ) (hw : kWf0 b0 h0 0 h0 σ) (hG : tG σ ≤ 90) (hb : b0 ≤ 110000) (hcs : cs + 852 ≤ 601024) (hsl : sl + 6520 ≤ 7293034) (next : lNext X b0 i cs sl) : KW X 511 [some (kR (some (13, 0, 0))), some (kR (some (5, 9, 0))), some (kR (some (7, 4, 0))), some (kR (some (12, 9, 0))), some (kI (nI i)), none, none, none, none] [] (km D G) cs sl := by
  have hs := hw.1
  have hbool := hw.2.2.2.2.2.2
  have hfresh : tC σ < 20 → tZ σ 1 (tC σ) = -1 ∧ tZ σ 4 (tC σ) = 0 := fun h => ⟨(hw.2.2.2.2.2.1.1 _ (Nat.le_refl _) h).1, (hw.2.2.2.2.2.1.1 _ (Nat.le_refl _) h).2.2.2⟩
  obtain ⟨bC, bL, bG, -⟩ := hw.1.1
  have hx5 := kx_live
  have h7 := mLive7
  have hx12 := kx12_live
  have e1 : nI i + 1 = nI (i + 1) := nI_add i 1
  have e2 : nI i + 2 = nI (i + 2) := nI_add i 2
  have e3 : nI i + 3 = nI (i + 3) := nI_add i 3
  have c1 := nI_clamp (show i + 1 < 2 ^ 31 by omega)
  have c2 := nI_clamp (show i + 2 < 2 ^ 31 by omega)
  have c3 := nI_clamp (show i + 3 < 2 ^ 31 by omega)
  have v1 : vp_in (nI (i + 1)) L := vp_in_nI (show i + 1 < L by omega) (by omega)
  have v2 : vp_in (nI (i + 2)) L := vp_in_nI (show i + 2 < L by omega) (by omega)
  have v3 : vp_in (nI (i + 3)) L := vp_in_nI (show i + 3 < L by omega) (by omega)
  have hwf := w_join hw hG (b2 := b0 + 200) (Nat.le_refl _) (xs (i + 1)) (xs (i + 2)) (xs (i + 3))
  generalize hrr : (rJoin σ (xs (i + 1)) (xs (i + 2)) (xs (i + 3))) = r at hwf
  have fin : ∀ (D2 : KI → Nat → Int32) (G2 : KI → Nat → Int64) (a b : Int32), kRep 0 D2 r.2.2 → mTop D2 r.2.2 → mSt 2 D2 r.2.2 → KW X 588 [some (kR (some (13, 0, 0))), some (kR (some (5, 9, 0))), some (kR (some (7, 4, 0))), some (kR (some (12, 9, 0))), some (kI (nI i)), some (kI a), some (kI b), none, none] [] (km D2 G2) (cs + 3 + 0 + 0) (sl + 18 + 0 + 0) := by
    intro D2 G2 a b q1 q2 q3
    refine kwL_law_588 hC hE ?_
    simp only [kbL_law_588, mL_law, kblk, kstp, kent, kpad, kget, kst1, kst2, kc2, cond_false, cond_true, kfv, kfit, kOkf, kputv, kputD, kputG, kcpy, kcat, kRR, kNN, true_and, and_true, if_true, if_false, if_pos, Nat.reduceAdd, Nat.reduceEqDiff, Nat.reduceLeDiff, Nat.reduceLT, reduceIte, Prod.mk.injEq, eq_self, false_and, and_false, reduceCtorEq, Nat.reduceSub, List.reverse_cons, List.reverse_nil, List.nil_append, List.cons_append, Option.toList_some, Option.toList_none, not_true_eq_false, not_false_eq_true]
    exact KW.widen (by omega) (by omega) (KW.le (by simp [kLE]) (next D2 G2 r.2.2 q1 q2 q3 hwf))
  refine kwL_law_511 hC hE ?_
  simp only [kbL_law_511, mL_law, kblk, kstp, kent, kpad, kget, kst1, kst2, kc2, cond_false, cond_true, kfv, kfit, kOkf, kputv, kputD, kputG, kcpy, kcat, kRR, kNN, true_and, and_true, if_true, if_false, if_pos, Nat.reduceAdd, Nat.reduceEqDiff, Nat.reduceLeDiff, Nat.reduceLT, reduceIte, Prod.mk.injEq, eq_self, false_and, and_false, reduceCtorEq, Nat.reduceSub, List.reverse_cons, List.reverse_nil, List.nil_append, List.cons_append, Option.toList_some, Option.toList_none, not_true_eq_false, not_false_eq_true, e1, e2, e3, c1, c2, c3, nI_1]
  refine ⟨v1, v2, v3, ?_⟩
  refine KW_callSW hC hCX (by decide +kernel) kl8_111 kcwL_join (by decide) ((l_join hr hw hG (xs (i + 1)) (xs (i + 2)) (xs (i + 3)))) rfl rfl (by simp [kOkL, kOk, hx5, h7, hx12]) (by simp [kOkS, kOk, hx5, h7, hx12]) (Nat.le_of_ble_eq_true rfl) (by omega) (by omega) ?_
  rintro v M' ⟨rfl, D1, G1, rfl, hr1, ho1, hout⟩
  have ht1 := top_agree ht ho1
  have hm1 := st_agree hm ho1
  rw [hrr] at hr1 hout ⊢
  refine kwL_law_534 hC hE ?_
  simp only [kbL_law_534, mL_law, kblk, kstp, kent, kpad, kget, kst1, kst2, kc2, cond_false, cond_true, kfv, kfit, kOkf, kputv, kputD, kputG, kcpy, kcat, kRR, kNN, true_and, and_true, if_true, if_false, if_pos, Nat.reduceAdd, Nat.reduceEqDiff, Nat.reduceLeDiff, Nat.reduceLT, reduceIte, Prod.mk.injEq, eq_self, false_and, and_false, reduceCtorEq, Nat.reduceSub, List.reverse_cons, List.reverse_nil, List.nil_append, List.cons_append, Option.toList_some, Option.toList_none, not_true_eq_false, not_false_eq_true, e1, e2, e3, c1, c2, c3, nI_1]
  refine ⟨v1, v2, v3, ?_⟩
  refine KW_callV hC (by decide +kernel) kl8_114 (by decide) ((m7_join ht1 hm1 hs hw.qOK hG hbool (xs (i + 1)) (xs (i + 2)) (xs (i + 3)))) rfl rfl (Nat.le_of_ble_eq_true rfl) rfl h7 (by simp [kOkL, kOk, hx5, h7, hx12]) (by simp [kOkS, kOk, hx5, h7, hx12]) (Nat.le_of_ble_eq_true rfl) (by omega) (by omega) ?_
  rintro v M' hq
  obtain ⟨⟨y, rfl, hy⟩, D2, rfl, hthr, ht2, hm2, ho2⟩ := n_join hs hq
  rw [hrr] at hy hthr ht2 hm2
  have hr2 : kRep 0 D2 r.2.2 := rep_agree hr1 (fun j hj => ho2 j (Or.inl (by omega)))
  refine kwL_law_558 hC hE ?_
  simp only [kbL_law_558, mL_law, kblk, kstp, kent, kpad, kget, kst1, kst2, kc2, cond_false, cond_true, kfv, kfit, kOkf, kputv, kputD, kputG, kcpy, kcat, kRR, kNN, true_and, and_true, if_true, if_false, if_pos, Nat.reduceAdd, Nat.reduceEqDiff, Nat.reduceLeDiff, Nat.reduceLT, reduceIte, Prod.mk.injEq, eq_self, false_and, and_false, reduceCtorEq, Nat.reduceSub, List.reverse_cons, List.reverse_nil, List.nil_append, List.cons_append, Option.toList_some, Option.toList_none, not_true_eq_false, not_false_eq_true]
  refine KW_callV hC (by decide +kernel) kl8_90 (by decide) ((m7_thrown)) rfl rfl (Nat.le_of_ble_eq_true rfl) rfl h7 (by simp [kOkL, kOk, hx5, h7, hx12]) (by simp [kOkS, kOk, hx5, h7, hx12]) (Nat.le_of_ble_eq_true rfl) (by omega) (by omega) ?_
  rintro v M' ⟨rfl, rfl⟩
  rw [hthr]
  refine kwL_law_564 hC hE ?_
  simp only [kbL_law_564, mL_law, kblk, kstp, kent, kpad, kget, kst1, kst2, kc2, cond_false, cond_true, kfv, kfit, kOkf, kputv, kputD, kputG, kcpy, kcat, kRR, kNN, true_and, and_true, if_true, if_false, if_pos, Nat.reduceAdd, Nat.reduceEqDiff, Nat.reduceLeDiff, Nat.reduceLT, reduceIte, Prod.mk.injEq, eq_self, false_and, and_false, reduceCtorEq, Nat.reduceSub, List.reverse_cons, List.reverse_nil, List.nil_append, List.cons_append, Option.toList_some, Option.toList_none, not_true_eq_false, not_false_eq_true]
  refine ⟨fun _ => ?_, fun z => z.elim⟩
  refine kwL_law_571 hC hE ?_
  simp only [kbL_law_571, mL_law, kblk, kstp, kent, kpad, kget, kst1, kst2, kc2, cond_false, cond_true, kfv, kfit, kOkf, kputv, kputD, kputG, kcpy, kcat, kRR, kNN, true_and, and_true, if_true, if_false, if_pos, Nat.reduceAdd, Nat.reduceEqDiff, Nat.reduceLeDiff, Nat.reduceLT, reduceIte, Prod.mk.injEq, eq_self, false_and, and_false, reduceCtorEq, Nat.reduceSub, List.reverse_cons, List.reverse_nil, List.nil_append, List.cons_append, Option.toList_some, Option.toList_none, not_true_eq_false, not_false_eq_true]
  refine ⟨fun _ => fin D2 G1 _ _ hr2 ht2 hm2, fun z => ?_⟩
  have ho : G1 (12, 9, 0) 0 = y.toInt64 := by rw [hout z, hy z]
  refine kwL_law_576 hC hE ?_
  simp only [kbL_law_576, mL_law, kblk, kstp, kent, kpad, kget, kst1, kst2, kc2, cond_false, cond_true, kfv, kfit, kOkf, kputv, kputD, kputG, kcpy, kcat, kRR, kNN, true_and, and_true, if_true, if_false, if_pos, Nat.reduceAdd, Nat.reduceEqDiff, Nat.reduceLeDiff, Nat.reduceLT, reduceIte, Prod.mk.injEq, eq_self, false_and, and_false, reduceCtorEq, Nat.reduceSub, List.reverse_cons, List.reverse_nil, List.nil_append, List.cons_append, Option.toList_some, Option.toList_none, not_true_eq_false, not_false_eq_true, hx12, cl0, ho, lg_self]
  refine ⟨vp_in_nI (show 0 < 1 by decide) (by decide), fun _ => fin D2 G1 _ _ hr2 ht2 hm2, fun z => z.elim⟩
theorem case_change (hC : KC X mL_law 8 false (some (L, xs)) 601024 7293034) (hCX : KCX X) (hE : KRet X mL_law E) (hL : L ≤ 2048) (hi : i + 4 ≤ L) (hr : kRep 0 D σ) (ht : mTop D σ) (hm : mSt 2 D σ) (hw : kWf0 b0 h0 0 h0 σ) (hG : tG σ ≤ 90) (hb : b0 ≤ 110000) (hcs : cs + 852 ≤ 601024) (hsl : sl + 6520 ≤ 7293034) (next : lNext X b0 i cs sl) : KW X 591 [some (kR (some (13, 0, 0))), some (kR (some (5, 9, 0))), some (kR (some (7, 4, 0))), some (kR (some (12, 9, 0))), some (kI (nI i)), none, none, none, none] [] (km D G) cs sl := by
  have hs := hw.1
  have hbool := hw.2.2.2.2.2.2
  have hfresh : tC σ < 20 → tZ σ 1 (tC σ) = -1 ∧ tZ σ 4 (tC σ) = 0 := fun h => ⟨(hw.2.2.2.2.2.1.1 _ (Nat.le_refl _) h).1, (hw.2.2.2.2.2.1.1 _ (Nat.le_refl _) h).2.2.2⟩
  obtain ⟨bC, bL, bG, -⟩ := hw.1.1
  have hx5 := kx_live
  have h7 := mLive7
  have hx12 := kx12_live
  have e1 : nI i + 1 = nI (i + 1) := nI_add i 1
  have e2 : nI i + 2 = nI (i + 2) := nI_add i 2
  have e3 : nI i + 3 = nI (i + 3) := nI_add i 3
  have c1 := nI_clamp (show i + 1 < 2 ^ 31 by omega)
  have c2 := nI_clamp (show i + 2 < 2 ^ 31 by omega)
  have c3 := nI_clamp (show i + 3 < 2 ^ 31 by omega)
  have v1 : vp_in (nI (i + 1)) L := vp_in_nI (show i + 1 < L by omega) (by omega)
  have v2 : vp_in (nI (i + 2)) L := vp_in_nI (show i + 2 < L by omega) (by omega)
  have v3 : vp_in (nI (i + 3)) L := vp_in_nI (show i + 3 < L by omega) (by omega)
  have hwf := w_change hw hG (b2 := b0 + 200) (Nat.le_refl _) (xs (i + 1)) (xs (i + 2))
  generalize hrr : (rChange σ (xs (i + 1)) (xs (i + 2))) = r at hwf
  have fin : ∀ (D2 : KI → Nat → Int32) (G2 : KI → Nat → Int64) (a b : Int32), kRep 0 D2 r.2.2 → mTop D2 r.2.2 → mSt 2 D2 r.2.2 → KW X 656 [some (kR (some (13, 0, 0))), some (kR (some (5, 9, 0))), some (kR (some (7, 4, 0))), some (kR (some (12, 9, 0))), some (kI (nI i)), some (kI a), some (kI b), none, none] [] (km D2 G2) (cs + 2 + 0 + 0) (sl + 12 + 0 + 0) := by
    intro D2 G2 a b q1 q2 q3
    refine kwL_law_656 hC hE ?_
    simp only [kbL_law_656, mL_law, kblk, kstp, kent, kpad, kget, kst1, kst2, kc2, cond_false, cond_true, kfv, kfit, kOkf, kputv, kputD, kputG, kcpy, kcat, kRR, kNN, true_and, and_true, if_true, if_false, if_pos, Nat.reduceAdd, Nat.reduceEqDiff, Nat.reduceLeDiff, Nat.reduceLT, reduceIte, Prod.mk.injEq, eq_self, false_and, and_false, reduceCtorEq, Nat.reduceSub, List.reverse_cons, List.reverse_nil, List.nil_append, List.cons_append, Option.toList_some, Option.toList_none, not_true_eq_false, not_false_eq_true]
    exact KW.widen (by omega) (by omega) (KW.le (by simp [kLE]) (next D2 G2 r.2.2 q1 q2 q3 hwf))
  refine kwL_law_591 hC hE ?_
  simp only [kbL_law_591, mL_law, kblk, kstp, kent, kpad, kget, kst1, kst2, kc2, cond_false, cond_true, kfv, kfit, kOkf, kputv, kputD, kputG, kcpy, kcat, kRR, kNN, true_and, and_true, if_true, if_false, if_pos, Nat.reduceAdd, Nat.reduceEqDiff, Nat.reduceLeDiff, Nat.reduceLT, reduceIte, Prod.mk.injEq, eq_self, false_and, and_false, reduceCtorEq, Nat.reduceSub, List.reverse_cons, List.reverse_nil, List.nil_append, List.cons_append, Option.toList_some, Option.toList_none, not_true_eq_false, not_false_eq_true, e1, e2, e3, c1, c2, c3, nI_1]
  refine ⟨v1, v2, ?_⟩
  refine KW_callSW hC hCX (by decide +kernel) kl8_115 kcwL_change (by decide) ((l_change hr hw hG (xs (i + 1)) (xs (i + 2)))) rfl rfl (by simp [kOkL, kOk, hx5, h7, hx12]) (by simp [kOkS, kOk, hx5, h7, hx12]) (Nat.le_of_ble_eq_true rfl) (by omega) (by omega) ?_
  rintro v M' ⟨rfl, D1, G1, rfl, hr1, ho1, hout⟩
  have ht1 := top_agree ht ho1
  have hm1 := st_agree hm ho1
  rw [hrr] at hr1 hout ⊢
  refine kwL_law_608 hC hE ?_
  simp only [kbL_law_608, mL_law, kblk, kstp, kent, kpad, kget, kst1, kst2, kc2, cond_false, cond_true, kfv, kfit, kOkf, kputv, kputD, kputG, kcpy, kcat, kRR, kNN, true_and, and_true, if_true, if_false, if_pos, Nat.reduceAdd, Nat.reduceEqDiff, Nat.reduceLeDiff, Nat.reduceLT, reduceIte, Prod.mk.injEq, eq_self, false_and, and_false, reduceCtorEq, Nat.reduceSub, List.reverse_cons, List.reverse_nil, List.nil_append, List.cons_append, Option.toList_some, Option.toList_none, not_true_eq_false, not_false_eq_true, e1, e2, e3, c1, c2, c3, nI_1]
  refine ⟨v1, v2, ?_⟩
  refine KW_callV hC (by decide +kernel) kl8_117 (by decide) ((m7_change ht1 hm1 hw (xs (i + 1)) (xs (i + 2)))) rfl rfl (Nat.le_of_ble_eq_true rfl) rfl h7 (by simp [kOkL, kOk, hx5, h7, hx12]) (by simp [kOkS, kOk, hx5, h7, hx12]) (Nat.le_of_ble_eq_true rfl) (by omega) (by omega) ?_
  rintro v M' hq
  obtain ⟨⟨y, rfl, hy⟩, D2, rfl, hthr, ht2, hm2, ho2⟩ := n_change hs hq
  rw [hrr] at hy hthr ht2 hm2
  have hr2 : kRep 0 D2 r.2.2 := rep_agree hr1 (fun j hj => ho2 j (Or.inl (by omega)))
  refine kwL_law_626 hC hE ?_
  simp only [kbL_law_626, mL_law, kblk, kstp, kent, kpad, kget, kst1, kst2, kc2, cond_false, cond_true, kfv, kfit, kOkf, kputv, kputD, kputG, kcpy, kcat, kRR, kNN, true_and, and_true, if_true, if_false, if_pos, Nat.reduceAdd, Nat.reduceEqDiff, Nat.reduceLeDiff, Nat.reduceLT, reduceIte, Prod.mk.injEq, eq_self, false_and, and_false, reduceCtorEq, Nat.reduceSub, List.reverse_cons, List.reverse_nil, List.nil_append, List.cons_append, Option.toList_some, Option.toList_none, not_true_eq_false, not_false_eq_true]
  refine KW_callV hC (by decide +kernel) kl8_90 (by decide) ((m7_thrown)) rfl rfl (Nat.le_of_ble_eq_true rfl) rfl h7 (by simp [kOkL, kOk, hx5, h7, hx12]) (by simp [kOkS, kOk, hx5, h7, hx12]) (Nat.le_of_ble_eq_true rfl) (by omega) (by omega) ?_
  rintro v M' ⟨rfl, rfl⟩
  rw [hthr]
  refine kwL_law_632 hC hE ?_
  simp only [kbL_law_632, mL_law, kblk, kstp, kent, kpad, kget, kst1, kst2, kc2, cond_false, cond_true, kfv, kfit, kOkf, kputv, kputD, kputG, kcpy, kcat, kRR, kNN, true_and, and_true, if_true, if_false, if_pos, Nat.reduceAdd, Nat.reduceEqDiff, Nat.reduceLeDiff, Nat.reduceLT, reduceIte, Prod.mk.injEq, eq_self, false_and, and_false, reduceCtorEq, Nat.reduceSub, List.reverse_cons, List.reverse_nil, List.nil_append, List.cons_append, Option.toList_some, Option.toList_none, not_true_eq_false, not_false_eq_true]
  refine ⟨fun _ => ?_, fun z => z.elim⟩
  refine kwL_law_639 hC hE ?_
  simp only [kbL_law_639, mL_law, kblk, kstp, kent, kpad, kget, kst1, kst2, kc2, cond_false, cond_true, kfv, kfit, kOkf, kputv, kputD, kputG, kcpy, kcat, kRR, kNN, true_and, and_true, if_true, if_false, if_pos, Nat.reduceAdd, Nat.reduceEqDiff, Nat.reduceLeDiff, Nat.reduceLT, reduceIte, Prod.mk.injEq, eq_self, false_and, and_false, reduceCtorEq, Nat.reduceSub, List.reverse_cons, List.reverse_nil, List.nil_append, List.cons_append, Option.toList_some, Option.toList_none, not_true_eq_false, not_false_eq_true]
  refine ⟨fun _ => fin D2 G1 _ _ hr2 ht2 hm2, fun z => ?_⟩
  have ho : G1 (12, 9, 0) 0 = y.toInt64 := by rw [hout z, hy z]
  refine kwL_law_644 hC hE ?_
  simp only [kbL_law_644, mL_law, kblk, kstp, kent, kpad, kget, kst1, kst2, kc2, cond_false, cond_true, kfv, kfit, kOkf, kputv, kputD, kputG, kcpy, kcat, kRR, kNN, true_and, and_true, if_true, if_false, if_pos, Nat.reduceAdd, Nat.reduceEqDiff, Nat.reduceLeDiff, Nat.reduceLT, reduceIte, Prod.mk.injEq, eq_self, false_and, and_false, reduceCtorEq, Nat.reduceSub, List.reverse_cons, List.reverse_nil, List.nil_append, List.cons_append, Option.toList_some, Option.toList_none, not_true_eq_false, not_false_eq_true, hx12, cl0, ho, lg_self]
  refine ⟨vp_in_nI (show 0 < 1 by decide) (by decide), fun _ => fin D2 G1 _ _ hr2 ht2 hm2, fun z => z.elim⟩
theorem case_leave (hC : KC X mL_law 8 false (some (L, xs)) 601024 7293034) (hCX : KCX X) (hE : KRet X mL_law E) (hL : L ≤ 2048) (hi : i + 4 ≤ L) (hr : kRep 0 D σ) (ht : mTop D σ) (hm : mSt 2 D σ) (hw : kWf0 b0 h0 0 h0 σ) (hG : tG σ ≤ 90) (hb : b0 ≤ 110000) (hcs : cs + 852 ≤ 601024) (hsl : sl + 6520 ≤ 7293034) (next : lNext X b0 i cs sl) : KW X 659 [some (kR (some (13, 0, 0))), some (kR (some (5, 9, 0))), some (kR (some (7, 4, 0))), some (kR (some (12, 9, 0))), some (kI (nI i)), none, none, none, none] [] (km D G) cs sl := by
  have hs := hw.1
  have hbool := hw.2.2.2.2.2.2
  have hfresh : tC σ < 20 → tZ σ 1 (tC σ) = -1 ∧ tZ σ 4 (tC σ) = 0 := fun h => ⟨(hw.2.2.2.2.2.1.1 _ (Nat.le_refl _) h).1, (hw.2.2.2.2.2.1.1 _ (Nat.le_refl _) h).2.2.2⟩
  obtain ⟨bC, bL, bG, -⟩ := hw.1.1
  have hx5 := kx_live
  have h7 := mLive7
  have hx12 := kx12_live
  have e1 : nI i + 1 = nI (i + 1) := nI_add i 1
  have e2 : nI i + 2 = nI (i + 2) := nI_add i 2
  have e3 : nI i + 3 = nI (i + 3) := nI_add i 3
  have c1 := nI_clamp (show i + 1 < 2 ^ 31 by omega)
  have c2 := nI_clamp (show i + 2 < 2 ^ 31 by omega)
  have c3 := nI_clamp (show i + 3 < 2 ^ 31 by omega)
  have v1 : vp_in (nI (i + 1)) L := vp_in_nI (show i + 1 < L by omega) (by omega)
  have v2 : vp_in (nI (i + 2)) L := vp_in_nI (show i + 2 < L by omega) (by omega)
  have v3 : vp_in (nI (i + 3)) L := vp_in_nI (show i + 3 < L by omega) (by omega)
  have hwf := w_leave hw hG (b2 := b0 + 200) (Nat.le_refl _) (xs (i + 1))
  generalize hrr : (rLeave σ (xs (i + 1))) = r at hwf
  have fin : ∀ (D2 : KI → Nat → Int32) (G2 : KI → Nat → Int64) (a b : Int32), kRep 0 D2 r.2.2 → mTop D2 r.2.2 → mSt 2 D2 r.2.2 → KW X 712 [some (kR (some (13, 0, 0))), some (kR (some (5, 9, 0))), some (kR (some (7, 4, 0))), some (kR (some (12, 9, 0))), some (kI (nI i)), some (kI a), some (kI b), none, none] [] (km D2 G2) (cs + 2 + 0 + 0) (sl + 12 + 0 + 0) := by
    intro D2 G2 a b q1 q2 q3
    refine kwL_law_712 hC hE ?_
    simp only [kbL_law_712, mL_law, kblk, kstp, kent, kpad, kget, kst1, kst2, kc2, cond_false, cond_true, kfv, kfit, kOkf, kputv, kputD, kputG, kcpy, kcat, kRR, kNN, true_and, and_true, if_true, if_false, if_pos, Nat.reduceAdd, Nat.reduceEqDiff, Nat.reduceLeDiff, Nat.reduceLT, reduceIte, Prod.mk.injEq, eq_self, false_and, and_false, reduceCtorEq, Nat.reduceSub, List.reverse_cons, List.reverse_nil, List.nil_append, List.cons_append, Option.toList_some, Option.toList_none, not_true_eq_false, not_false_eq_true]
    exact KW.widen (by omega) (by omega) (KW.le (by simp [kLE]) (next D2 G2 r.2.2 q1 q2 q3 hwf))
  refine kwL_law_659 hC hE ?_
  simp only [kbL_law_659, mL_law, kblk, kstp, kent, kpad, kget, kst1, kst2, kc2, cond_false, cond_true, kfv, kfit, kOkf, kputv, kputD, kputG, kcpy, kcat, kRR, kNN, true_and, and_true, if_true, if_false, if_pos, Nat.reduceAdd, Nat.reduceEqDiff, Nat.reduceLeDiff, Nat.reduceLT, reduceIte, Prod.mk.injEq, eq_self, false_and, and_false, reduceCtorEq, Nat.reduceSub, List.reverse_cons, List.reverse_nil, List.nil_append, List.cons_append, Option.toList_some, Option.toList_none, not_true_eq_false, not_false_eq_true, e1, e2, e3, c1, c2, c3, nI_1]
  refine ⟨v1, ?_⟩
  refine KW_callSW hC hCX (by decide +kernel) kl8_118 kcwL_leave (by decide) ((l_leave hr hw hG (xs (i + 1)))) rfl rfl (by simp [kOkL, kOk, hx5, h7, hx12]) (by simp [kOkS, kOk, hx5, h7, hx12]) (Nat.le_of_ble_eq_true rfl) (by omega) (by omega) ?_
  rintro v M' ⟨rfl, D1, G1, rfl, hr1, ho1, hout⟩
  have ht1 := top_agree ht ho1
  have hm1 := st_agree hm ho1
  rw [hrr] at hr1 hout ⊢
  refine kwL_law_670 hC hE ?_
  simp only [kbL_law_670, mL_law, kblk, kstp, kent, kpad, kget, kst1, kst2, kc2, cond_false, cond_true, kfv, kfit, kOkf, kputv, kputD, kputG, kcpy, kcat, kRR, kNN, true_and, and_true, if_true, if_false, if_pos, Nat.reduceAdd, Nat.reduceEqDiff, Nat.reduceLeDiff, Nat.reduceLT, reduceIte, Prod.mk.injEq, eq_self, false_and, and_false, reduceCtorEq, Nat.reduceSub, List.reverse_cons, List.reverse_nil, List.nil_append, List.cons_append, Option.toList_some, Option.toList_none, not_true_eq_false, not_false_eq_true, e1, e2, e3, c1, c2, c3, nI_1]
  refine ⟨v1, ?_⟩
  refine KW_callV hC (by decide +kernel) kl8_120 (by decide) ((m7_leave ht1 hm1 hw (xs (i + 1)))) rfl rfl (Nat.le_of_ble_eq_true rfl) rfl h7 (by simp [kOkL, kOk, hx5, h7, hx12]) (by simp [kOkS, kOk, hx5, h7, hx12]) (Nat.le_of_ble_eq_true rfl) (by omega) (by omega) ?_
  rintro v M' hq
  obtain ⟨⟨y, rfl, hy⟩, D2, rfl, hthr, ht2, hm2, ho2⟩ := n_leave hs hq
  rw [hrr] at hy hthr ht2 hm2
  have hr2 : kRep 0 D2 r.2.2 := rep_agree hr1 (fun j hj => ho2 j (Or.inl (by omega)))
  refine kwL_law_682 hC hE ?_
  simp only [kbL_law_682, mL_law, kblk, kstp, kent, kpad, kget, kst1, kst2, kc2, cond_false, cond_true, kfv, kfit, kOkf, kputv, kputD, kputG, kcpy, kcat, kRR, kNN, true_and, and_true, if_true, if_false, if_pos, Nat.reduceAdd, Nat.reduceEqDiff, Nat.reduceLeDiff, Nat.reduceLT, reduceIte, Prod.mk.injEq, eq_self, false_and, and_false, reduceCtorEq, Nat.reduceSub, List.reverse_cons, List.reverse_nil, List.nil_append, List.cons_append, Option.toList_some, Option.toList_none, not_true_eq_false, not_false_eq_true]
  refine KW_callV hC (by decide +kernel) kl8_90 (by decide) ((m7_thrown)) rfl rfl (Nat.le_of_ble_eq_true rfl) rfl h7 (by simp [kOkL, kOk, hx5, h7, hx12]) (by simp [kOkS, kOk, hx5, h7, hx12]) (Nat.le_of_ble_eq_true rfl) (by omega) (by omega) ?_
  rintro v M' ⟨rfl, rfl⟩
  rw [hthr]
  refine kwL_law_688 hC hE ?_
  simp only [kbL_law_688, mL_law, kblk, kstp, kent, kpad, kget, kst1, kst2, kc2, cond_false, cond_true, kfv, kfit, kOkf, kputv, kputD, kputG, kcpy, kcat, kRR, kNN, true_and, and_true, if_true, if_false, if_pos, Nat.reduceAdd, Nat.reduceEqDiff, Nat.reduceLeDiff, Nat.reduceLT, reduceIte, Prod.mk.injEq, eq_self, false_and, and_false, reduceCtorEq, Nat.reduceSub, List.reverse_cons, List.reverse_nil, List.nil_append, List.cons_append, Option.toList_some, Option.toList_none, not_true_eq_false, not_false_eq_true]
  refine ⟨fun _ => ?_, fun z => z.elim⟩
  refine kwL_law_695 hC hE ?_
  simp only [kbL_law_695, mL_law, kblk, kstp, kent, kpad, kget, kst1, kst2, kc2, cond_false, cond_true, kfv, kfit, kOkf, kputv, kputD, kputG, kcpy, kcat, kRR, kNN, true_and, and_true, if_true, if_false, if_pos, Nat.reduceAdd, Nat.reduceEqDiff, Nat.reduceLeDiff, Nat.reduceLT, reduceIte, Prod.mk.injEq, eq_self, false_and, and_false, reduceCtorEq, Nat.reduceSub, List.reverse_cons, List.reverse_nil, List.nil_append, List.cons_append, Option.toList_some, Option.toList_none, not_true_eq_false, not_false_eq_true]
  refine ⟨fun _ => fin D2 G1 _ _ hr2 ht2 hm2, fun z => ?_⟩
  have ho : G1 (12, 9, 0) 0 = y.toInt64 := by rw [hout z, hy z]
  refine kwL_law_700 hC hE ?_
  simp only [kbL_law_700, mL_law, kblk, kstp, kent, kpad, kget, kst1, kst2, kc2, cond_false, cond_true, kfv, kfit, kOkf, kputv, kputD, kputG, kcpy, kcat, kRR, kNN, true_and, and_true, if_true, if_false, if_pos, Nat.reduceAdd, Nat.reduceEqDiff, Nat.reduceLeDiff, Nat.reduceLT, reduceIte, Prod.mk.injEq, eq_self, false_and, and_false, reduceCtorEq, Nat.reduceSub, List.reverse_cons, List.reverse_nil, List.nil_append, List.cons_append, Option.toList_some, Option.toList_none, not_true_eq_false, not_false_eq_true, hx12, cl0, ho, lg_self]
  refine ⟨vp_in_nI (show 0 < 1 by decide) (by decide), fun _ => fin D2 G1 _ _ hr2 ht2 hm2, fun z => z.elim⟩
theorem case_group (hC : KC X mL_law 8 false (some (L, xs)) 601024 7293034) (hCX : KCX X) (hE : KRet X mL_law E) (hL : L ≤ 2048) (hi : i + 4 ≤ L) (hr : kRep 0 D σ) (ht : mTop D σ) (hm : mSt 2 D σ) (hw : kWf0 b0 h0 0 h0 σ) (hG : tG σ ≤ 90) (hb : b0 ≤ 110000) (hcs : cs + 852 ≤ 601024) (hsl : sl + 6520 ≤ 7293034) (next : lNext X b0 i cs sl) : KW X 715 [some (kR (some (13, 0, 0))), some (kR (some (5, 9, 0))), some (kR (some (7, 4, 0))), some (kR (some (12, 9, 0))), some (kI (nI i)), none, none, none, none] [] (km D G) cs sl := by
  have hs := hw.1
  have hbool := hw.2.2.2.2.2.2
  have hfresh : tC σ < 20 → tZ σ 1 (tC σ) = -1 ∧ tZ σ 4 (tC σ) = 0 := fun h => ⟨(hw.2.2.2.2.2.1.1 _ (Nat.le_refl _) h).1, (hw.2.2.2.2.2.1.1 _ (Nat.le_refl _) h).2.2.2⟩
  obtain ⟨bC, bL, bG, -⟩ := hw.1.1
  have hx5 := kx_live
  have h7 := mLive7
  have hx12 := kx12_live
  have e1 : nI i + 1 = nI (i + 1) := nI_add i 1
  have e2 : nI i + 2 = nI (i + 2) := nI_add i 2
  have e3 : nI i + 3 = nI (i + 3) := nI_add i 3
  have c1 := nI_clamp (show i + 1 < 2 ^ 31 by omega)
  have c2 := nI_clamp (show i + 2 < 2 ^ 31 by omega)
  have c3 := nI_clamp (show i + 3 < 2 ^ 31 by omega)
  have v1 : vp_in (nI (i + 1)) L := vp_in_nI (show i + 1 < L by omega) (by omega)
  have v2 : vp_in (nI (i + 2)) L := vp_in_nI (show i + 2 < L by omega) (by omega)
  have v3 : vp_in (nI (i + 3)) L := vp_in_nI (show i + 3 < L by omega) (by omega)
  have hwf := w_group hw hG (b2 := b0 + 200) (Nat.le_refl _) (xs (i + 1)) (xs (i + 2))
  generalize hrr : (rGroup σ (xs (i + 1)) (xs (i + 2))) = r at hwf
  have fin : ∀ (D2 : KI → Nat → Int32) (G2 : KI → Nat → Int64) (a b : Int32), kRep 0 D2 r.2.2 → mTop D2 r.2.2 → mSt 2 D2 r.2.2 → KW X 780 [some (kR (some (13, 0, 0))), some (kR (some (5, 9, 0))), some (kR (some (7, 4, 0))), some (kR (some (12, 9, 0))), some (kI (nI i)), some (kI a), some (kI b), none, none] [] (km D2 G2) (cs + 1 + 1 + 0) (sl + 6 + 8 + 0) := by
    intro D2 G2 a b q1 q2 q3
    refine kwL_law_780 hC hE ?_
    simp only [kbL_law_780, mL_law, kblk, kstp, kent, kpad, kget, kst1, kst2, kc2, cond_false, cond_true, kfv, kfit, kOkf, kputv, kputD, kputG, kcpy, kcat, kRR, kNN, true_and, and_true, if_true, if_false, if_pos, Nat.reduceAdd, Nat.reduceEqDiff, Nat.reduceLeDiff, Nat.reduceLT, reduceIte, Prod.mk.injEq, eq_self, false_and, and_false, reduceCtorEq, Nat.reduceSub, List.reverse_cons, List.reverse_nil, List.nil_append, List.cons_append, Option.toList_some, Option.toList_none, not_true_eq_false, not_false_eq_true]
    exact KW.widen (by omega) (by omega) (KW.le (by simp [kLE]) (next D2 G2 r.2.2 q1 q2 q3 hwf))
  refine kwL_law_715 hC hE ?_
  simp only [kbL_law_715, mL_law, kblk, kstp, kent, kpad, kget, kst1, kst2, kc2, cond_false, cond_true, kfv, kfit, kOkf, kputv, kputD, kputG, kcpy, kcat, kRR, kNN, true_and, and_true, if_true, if_false, if_pos, Nat.reduceAdd, Nat.reduceEqDiff, Nat.reduceLeDiff, Nat.reduceLT, reduceIte, Prod.mk.injEq, eq_self, false_and, and_false, reduceCtorEq, Nat.reduceSub, List.reverse_cons, List.reverse_nil, List.nil_append, List.cons_append, Option.toList_some, Option.toList_none, not_true_eq_false, not_false_eq_true, e1, e2, e3, c1, c2, c3, nI_1]
  refine ⟨v1, v2, ?_⟩
  refine KW_callSW hC hCX (by decide +kernel) kl8_121 kcwL_group (by decide) ((l_group hr hw hG (xs (i + 1)) (xs (i + 2)))) rfl rfl (by simp [kOkL, kOk, hx5, h7, hx12]) (by simp [kOkS, kOk, hx5, h7, hx12]) (Nat.le_of_ble_eq_true rfl) (by omega) (by omega) ?_
  rintro v M' ⟨rfl, D1, G1, rfl, hr1, ho1, hout⟩
  have ht1 := top_agree ht ho1
  have hm1 := st_agree hm ho1
  rw [hrr] at hr1 hout ⊢
  refine kwL_law_732 hC hE ?_
  simp only [kbL_law_732, mL_law, kblk, kstp, kent, kpad, kget, kst1, kst2, kc2, cond_false, cond_true, kfv, kfit, kOkf, kputv, kputD, kputG, kcpy, kcat, kRR, kNN, true_and, and_true, if_true, if_false, if_pos, Nat.reduceAdd, Nat.reduceEqDiff, Nat.reduceLeDiff, Nat.reduceLT, reduceIte, Prod.mk.injEq, eq_self, false_and, and_false, reduceCtorEq, Nat.reduceSub, List.reverse_cons, List.reverse_nil, List.nil_append, List.cons_append, Option.toList_some, Option.toList_none, not_true_eq_false, not_false_eq_true, e1, e2, e3, c1, c2, c3, nI_1]
  refine ⟨v1, v2, ?_⟩
  refine KW_callV hC (by decide +kernel) kl8_123 (by decide) ((m7_group ht1 hm1 hw (xs (i + 1)) (xs (i + 2)))) rfl rfl (Nat.le_of_ble_eq_true rfl) rfl h7 (by simp [kOkL, kOk, hx5, h7, hx12]) (by simp [kOkS, kOk, hx5, h7, hx12]) (Nat.le_of_ble_eq_true rfl) (by omega) (by omega) ?_
  rintro v M' hq
  obtain ⟨⟨y, rfl, hy⟩, D2, rfl, hthr, ht2, hm2, ho2⟩ := n_group hs hq
  rw [hrr] at hy hthr ht2 hm2
  have hr2 : kRep 0 D2 r.2.2 := rep_agree hr1 (fun j hj => ho2 j (Or.inl (by omega)))
  refine kwL_law_750 hC hE ?_
  simp only [kbL_law_750, mL_law, kblk, kstp, kent, kpad, kget, kst1, kst2, kc2, cond_false, cond_true, kfv, kfit, kOkf, kputv, kputD, kputG, kcpy, kcat, kRR, kNN, true_and, and_true, if_true, if_false, if_pos, Nat.reduceAdd, Nat.reduceEqDiff, Nat.reduceLeDiff, Nat.reduceLT, reduceIte, Prod.mk.injEq, eq_self, false_and, and_false, reduceCtorEq, Nat.reduceSub, List.reverse_cons, List.reverse_nil, List.nil_append, List.cons_append, Option.toList_some, Option.toList_none, not_true_eq_false, not_false_eq_true]
  refine KW_callV hC (by decide +kernel) kl8_90 (by decide) ((m7_thrown)) rfl rfl (Nat.le_of_ble_eq_true rfl) rfl h7 (by simp [kOkL, kOk, hx5, h7, hx12]) (by simp [kOkS, kOk, hx5, h7, hx12]) (Nat.le_of_ble_eq_true rfl) (by omega) (by omega) ?_
  rintro v M' ⟨rfl, rfl⟩
  rw [hthr]
  refine kwL_law_756 hC hE ?_
  simp only [kbL_law_756, mL_law, kblk, kstp, kent, kpad, kget, kst1, kst2, kc2, cond_false, cond_true, kfv, kfit, kOkf, kputv, kputD, kputG, kcpy, kcat, kRR, kNN, true_and, and_true, if_true, if_false, if_pos, Nat.reduceAdd, Nat.reduceEqDiff, Nat.reduceLeDiff, Nat.reduceLT, reduceIte, Prod.mk.injEq, eq_self, false_and, and_false, reduceCtorEq, Nat.reduceSub, List.reverse_cons, List.reverse_nil, List.nil_append, List.cons_append, Option.toList_some, Option.toList_none, not_true_eq_false, not_false_eq_true]
  refine ⟨fun _ => ?_, fun z => z.elim⟩
  refine kwL_law_763 hC hE ?_
  simp only [kbL_law_763, mL_law, kblk, kstp, kent, kpad, kget, kst1, kst2, kc2, cond_false, cond_true, kfv, kfit, kOkf, kputv, kputD, kputG, kcpy, kcat, kRR, kNN, true_and, and_true, if_true, if_false, if_pos, Nat.reduceAdd, Nat.reduceEqDiff, Nat.reduceLeDiff, Nat.reduceLT, reduceIte, Prod.mk.injEq, eq_self, false_and, and_false, reduceCtorEq, Nat.reduceSub, List.reverse_cons, List.reverse_nil, List.nil_append, List.cons_append, Option.toList_some, Option.toList_none, not_true_eq_false, not_false_eq_true]
  refine ⟨fun _ => fin D2 G1 _ _ hr2 ht2 hm2, fun z => ?_⟩
  have ho : G1 (12, 9, 0) 0 = y.toInt64 := by rw [hout z, hy z]
  refine kwL_law_768 hC hE ?_
  simp only [kbL_law_768, mL_law, kblk, kstp, kent, kpad, kget, kst1, kst2, kc2, cond_false, cond_true, kfv, kfit, kOkf, kputv, kputD, kputG, kcpy, kcat, kRR, kNN, true_and, and_true, if_true, if_false, if_pos, Nat.reduceAdd, Nat.reduceEqDiff, Nat.reduceLeDiff, Nat.reduceLT, reduceIte, Prod.mk.injEq, eq_self, false_and, and_false, reduceCtorEq, Nat.reduceSub, List.reverse_cons, List.reverse_nil, List.nil_append, List.cons_append, Option.toList_some, Option.toList_none, not_true_eq_false, not_false_eq_true, hx12, cl0, ho, lg_self]
  refine ⟨vp_in_nI (show 0 < 1 by decide) (by decide), fun _ => fin D2 G1 _ _ hr2 ht2 hm2, fun z => z.elim⟩
theorem case_chair (hC : KC X mL_law 8 false (some (L, xs)) 601024 7293034) (hCX : KCX X) (hE : KRet X mL_law E) (hL : L ≤ 2048) (hi : i + 4 ≤ L) (hr : kRep 0 D σ) (ht : mTop D σ) (hm : mSt 2 D σ) (hw : kWf0 b0 h0 0 h0 σ) (hG : tG σ ≤ 90) (hb : b0 ≤ 110000) (hcs : cs + 852 ≤ 601024) (hsl : sl + 6520 ≤ 7293034) (next : lNext X b0 i cs sl) : KW X 783 [some (kR (some (13, 0, 0))), some (kR (some (5, 9, 0))), some (kR (some (7, 4, 0))), some (kR (some (12, 9, 0))), some (kI (nI i)), none, none, none, none] [] (km D G) cs sl := by
  have hs := hw.1
  have hbool := hw.2.2.2.2.2.2
  have hfresh : tC σ < 20 → tZ σ 1 (tC σ) = -1 ∧ tZ σ 4 (tC σ) = 0 := fun h => ⟨(hw.2.2.2.2.2.1.1 _ (Nat.le_refl _) h).1, (hw.2.2.2.2.2.1.1 _ (Nat.le_refl _) h).2.2.2⟩
  obtain ⟨bC, bL, bG, -⟩ := hw.1.1
  have hx5 := kx_live
  have h7 := mLive7
  have hx12 := kx12_live
  have e1 : nI i + 1 = nI (i + 1) := nI_add i 1
  have e2 : nI i + 2 = nI (i + 2) := nI_add i 2
  have e3 : nI i + 3 = nI (i + 3) := nI_add i 3
  have c1 := nI_clamp (show i + 1 < 2 ^ 31 by omega)
  have c2 := nI_clamp (show i + 2 < 2 ^ 31 by omega)
  have c3 := nI_clamp (show i + 3 < 2 ^ 31 by omega)
  have v1 : vp_in (nI (i + 1)) L := vp_in_nI (show i + 1 < L by omega) (by omega)
  have v2 : vp_in (nI (i + 2)) L := vp_in_nI (show i + 2 < L by omega) (by omega)
  have v3 : vp_in (nI (i + 3)) L := vp_in_nI (show i + 3 < L by omega) (by omega)
  have hwf := w_chair hw hG (b2 := b0 + 200) (Nat.le_refl _) (xs (i + 1)) (xs (i + 2))
  generalize hrr : (rChair σ (xs (i + 1)) (xs (i + 2))) = r at hwf
  have fin : ∀ (D2 : KI → Nat → Int32) (G2 : KI → Nat → Int64) (a b : Int32), kRep 0 D2 r.2.2 → mTop D2 r.2.2 → mSt 2 D2 r.2.2 → KW X 848 [some (kR (some (13, 0, 0))), some (kR (some (5, 9, 0))), some (kR (some (7, 4, 0))), some (kR (some (12, 9, 0))), some (kI (nI i)), some (kI a), some (kI b), none, none] [] (km D2 G2) (cs + 1 + 1 + 0) (sl + 6 + 5 + 0) := by
    intro D2 G2 a b q1 q2 q3
    refine kwL_law_848 hC hE ?_
    simp only [kbL_law_848, mL_law, kblk, kstp, kent, kpad, kget, kst1, kst2, kc2, cond_false, cond_true, kfv, kfit, kOkf, kputv, kputD, kputG, kcpy, kcat, kRR, kNN, true_and, and_true, if_true, if_false, if_pos, Nat.reduceAdd, Nat.reduceEqDiff, Nat.reduceLeDiff, Nat.reduceLT, reduceIte, Prod.mk.injEq, eq_self, false_and, and_false, reduceCtorEq, Nat.reduceSub, List.reverse_cons, List.reverse_nil, List.nil_append, List.cons_append, Option.toList_some, Option.toList_none, not_true_eq_false, not_false_eq_true]
    exact KW.widen (by omega) (by omega) (KW.le (by simp [kLE]) (next D2 G2 r.2.2 q1 q2 q3 hwf))
  refine kwL_law_783 hC hE ?_
  simp only [kbL_law_783, mL_law, kblk, kstp, kent, kpad, kget, kst1, kst2, kc2, cond_false, cond_true, kfv, kfit, kOkf, kputv, kputD, kputG, kcpy, kcat, kRR, kNN, true_and, and_true, if_true, if_false, if_pos, Nat.reduceAdd, Nat.reduceEqDiff, Nat.reduceLeDiff, Nat.reduceLT, reduceIte, Prod.mk.injEq, eq_self, false_and, and_false, reduceCtorEq, Nat.reduceSub, List.reverse_cons, List.reverse_nil, List.nil_append, List.cons_append, Option.toList_some, Option.toList_none, not_true_eq_false, not_false_eq_true, e1, e2, e3, c1, c2, c3, nI_1]
  refine ⟨v1, v2, ?_⟩
  refine KW_callSW hC hCX (by decide +kernel) kl8_124 kcwL_chair (by decide) ((l_chair hr hw hG (xs (i + 1)) (xs (i + 2)))) rfl rfl (by simp [kOkL, kOk, hx5, h7, hx12]) (by simp [kOkS, kOk, hx5, h7, hx12]) (Nat.le_of_ble_eq_true rfl) (by omega) (by omega) ?_
  rintro v M' ⟨rfl, D1, G1, rfl, hr1, ho1, hout⟩
  have ht1 := top_agree ht ho1
  have hm1 := st_agree hm ho1
  rw [hrr] at hr1 hout ⊢
  refine kwL_law_800 hC hE ?_
  simp only [kbL_law_800, mL_law, kblk, kstp, kent, kpad, kget, kst1, kst2, kc2, cond_false, cond_true, kfv, kfit, kOkf, kputv, kputD, kputG, kcpy, kcat, kRR, kNN, true_and, and_true, if_true, if_false, if_pos, Nat.reduceAdd, Nat.reduceEqDiff, Nat.reduceLeDiff, Nat.reduceLT, reduceIte, Prod.mk.injEq, eq_self, false_and, and_false, reduceCtorEq, Nat.reduceSub, List.reverse_cons, List.reverse_nil, List.nil_append, List.cons_append, Option.toList_some, Option.toList_none, not_true_eq_false, not_false_eq_true, e1, e2, e3, c1, c2, c3, nI_1]
  refine ⟨v1, v2, ?_⟩
  refine KW_callV hC (by decide +kernel) kl8_126 (by decide) ((m7_chair ht1 hm1 hw (xs (i + 1)) (xs (i + 2)))) rfl rfl (Nat.le_of_ble_eq_true rfl) rfl h7 (by simp [kOkL, kOk, hx5, h7, hx12]) (by simp [kOkS, kOk, hx5, h7, hx12]) (Nat.le_of_ble_eq_true rfl) (by omega) (by omega) ?_
  rintro v M' hq
  obtain ⟨⟨y, rfl, hy⟩, D2, rfl, hthr, ht2, hm2, ho2⟩ := n_chair hs hq
  rw [hrr] at hy hthr ht2 hm2
  have hr2 : kRep 0 D2 r.2.2 := rep_agree hr1 (fun j hj => ho2 j (Or.inl (by omega)))
  refine kwL_law_818 hC hE ?_
  simp only [kbL_law_818, mL_law, kblk, kstp, kent, kpad, kget, kst1, kst2, kc2, cond_false, cond_true, kfv, kfit, kOkf, kputv, kputD, kputG, kcpy, kcat, kRR, kNN, true_and, and_true, if_true, if_false, if_pos, Nat.reduceAdd, Nat.reduceEqDiff, Nat.reduceLeDiff, Nat.reduceLT, reduceIte, Prod.mk.injEq, eq_self, false_and, and_false, reduceCtorEq, Nat.reduceSub, List.reverse_cons, List.reverse_nil, List.nil_append, List.cons_append, Option.toList_some, Option.toList_none, not_true_eq_false, not_false_eq_true]
  refine KW_callV hC (by decide +kernel) kl8_90 (by decide) ((m7_thrown)) rfl rfl (Nat.le_of_ble_eq_true rfl) rfl h7 (by simp [kOkL, kOk, hx5, h7, hx12]) (by simp [kOkS, kOk, hx5, h7, hx12]) (Nat.le_of_ble_eq_true rfl) (by omega) (by omega) ?_
  rintro v M' ⟨rfl, rfl⟩
  rw [hthr]
  refine kwL_law_824 hC hE ?_
  simp only [kbL_law_824, mL_law, kblk, kstp, kent, kpad, kget, kst1, kst2, kc2, cond_false, cond_true, kfv, kfit, kOkf, kputv, kputD, kputG, kcpy, kcat, kRR, kNN, true_and, and_true, if_true, if_false, if_pos, Nat.reduceAdd, Nat.reduceEqDiff, Nat.reduceLeDiff, Nat.reduceLT, reduceIte, Prod.mk.injEq, eq_self, false_and, and_false, reduceCtorEq, Nat.reduceSub, List.reverse_cons, List.reverse_nil, List.nil_append, List.cons_append, Option.toList_some, Option.toList_none, not_true_eq_false, not_false_eq_true]
  refine ⟨fun _ => ?_, fun z => z.elim⟩
  refine kwL_law_831 hC hE ?_
  simp only [kbL_law_831, mL_law, kblk, kstp, kent, kpad, kget, kst1, kst2, kc2, cond_false, cond_true, kfv, kfit, kOkf, kputv, kputD, kputG, kcpy, kcat, kRR, kNN, true_and, and_true, if_true, if_false, if_pos, Nat.reduceAdd, Nat.reduceEqDiff, Nat.reduceLeDiff, Nat.reduceLT, reduceIte, Prod.mk.injEq, eq_self, false_and, and_false, reduceCtorEq, Nat.reduceSub, List.reverse_cons, List.reverse_nil, List.nil_append, List.cons_append, Option.toList_some, Option.toList_none, not_true_eq_false, not_false_eq_true]
  refine ⟨fun _ => fin D2 G1 _ _ hr2 ht2 hm2, fun z => ?_⟩
  have ho : G1 (12, 9, 0) 0 = y.toInt64 := by rw [hout z, hy z]
  refine kwL_law_836 hC hE ?_
  simp only [kbL_law_836, mL_law, kblk, kstp, kent, kpad, kget, kst1, kst2, kc2, cond_false, cond_true, kfv, kfit, kOkf, kputv, kputD, kputG, kcpy, kcat, kRR, kNN, true_and, and_true, if_true, if_false, if_pos, Nat.reduceAdd, Nat.reduceEqDiff, Nat.reduceLeDiff, Nat.reduceLT, reduceIte, Prod.mk.injEq, eq_self, false_and, and_false, reduceCtorEq, Nat.reduceSub, List.reverse_cons, List.reverse_nil, List.nil_append, List.cons_append, Option.toList_some, Option.toList_none, not_true_eq_false, not_false_eq_true, hx12, cl0, ho, lg_self]
  refine ⟨vp_in_nI (show 0 < 1 by decide) (by decide), fun _ => fin D2 G1 _ _ hr2 ht2 hm2, fun z => z.elim⟩
theorem case_lane (hC : KC X mL_law 8 false (some (L, xs)) 601024 7293034) (hCX : KCX X) (hE : KRet X mL_law E) (hL : L ≤ 2048) (hi : i + 4 ≤ L) (hr : kRep 0 D σ) (ht : mTop D σ) (hm : mSt 2 D σ) (hw : kWf0 b0 h0 0 h0 σ) (hG : tG σ ≤ 90) (hb : b0 ≤ 110000) (hcs : cs + 852 ≤ 601024) (hsl : sl + 6520 ≤ 7293034) (next : lNext X b0 i cs sl) : KW X 851 [some (kR (some (13, 0, 0))), some (kR (some (5, 9, 0))), some (kR (some (7, 4, 0))), some (kR (some (12, 9, 0))), some (kI (nI i)), none, none, none, none] [] (km D G) cs sl := by
  have hs := hw.1
  have hbool := hw.2.2.2.2.2.2
  have hfresh : tC σ < 20 → tZ σ 1 (tC σ) = -1 ∧ tZ σ 4 (tC σ) = 0 := fun h => ⟨(hw.2.2.2.2.2.1.1 _ (Nat.le_refl _) h).1, (hw.2.2.2.2.2.1.1 _ (Nat.le_refl _) h).2.2.2⟩
  obtain ⟨bC, bL, bG, -⟩ := hw.1.1
  have hx5 := kx_live
  have h7 := mLive7
  have hx12 := kx12_live
  have e1 : nI i + 1 = nI (i + 1) := nI_add i 1
  have e2 : nI i + 2 = nI (i + 2) := nI_add i 2
  have e3 : nI i + 3 = nI (i + 3) := nI_add i 3
  have c1 := nI_clamp (show i + 1 < 2 ^ 31 by omega)
  have c2 := nI_clamp (show i + 2 < 2 ^ 31 by omega)
  have c3 := nI_clamp (show i + 3 < 2 ^ 31 by omega)
  have v1 : vp_in (nI (i + 1)) L := vp_in_nI (show i + 1 < L by omega) (by omega)
  have v2 : vp_in (nI (i + 2)) L := vp_in_nI (show i + 2 < L by omega) (by omega)
  have v3 : vp_in (nI (i + 3)) L := vp_in_nI (show i + 3 < L by omega) (by omega)
  have hwf := w_lane hw hG (b2 := b0 + 200) (Nat.le_refl _) (xs (i + 1)) (xs (i + 2))
  generalize hrr : (rLane σ (xs (i + 1)) (xs (i + 2))) = r at hwf
  have fin : ∀ (D2 : KI → Nat → Int32) (G2 : KI → Nat → Int64) (a b : Int32), kRep 0 D2 r.2.2 → mTop D2 r.2.2 → mSt 2 D2 r.2.2 → KW X 916 [some (kR (some (13, 0, 0))), some (kR (some (5, 9, 0))), some (kR (some (7, 4, 0))), some (kR (some (12, 9, 0))), some (kI (nI i)), some (kI a), some (kI b), none, none] [] (km D2 G2) (cs + 1 + 1 + 0) (sl + 6 + 4 + 0) := by
    intro D2 G2 a b q1 q2 q3
    refine kwL_law_916 hC hE ?_
    simp only [kbL_law_916, mL_law, kblk, kstp, kent, kpad, kget, kst1, kst2, kc2, cond_false, cond_true, kfv, kfit, kOkf, kputv, kputD, kputG, kcpy, kcat, kRR, kNN, true_and, and_true, if_true, if_false, if_pos, Nat.reduceAdd, Nat.reduceEqDiff, Nat.reduceLeDiff, Nat.reduceLT, reduceIte, Prod.mk.injEq, eq_self, false_and, and_false, reduceCtorEq, Nat.reduceSub, List.reverse_cons, List.reverse_nil, List.nil_append, List.cons_append, Option.toList_some, Option.toList_none, not_true_eq_false, not_false_eq_true]
    exact KW.widen (by omega) (by omega) (KW.le (by simp [kLE]) (next D2 G2 r.2.2 q1 q2 q3 hwf))
  refine kwL_law_851 hC hE ?_
  simp only [kbL_law_851, mL_law, kblk, kstp, kent, kpad, kget, kst1, kst2, kc2, cond_false, cond_true, kfv, kfit, kOkf, kputv, kputD, kputG, kcpy, kcat, kRR, kNN, true_and, and_true, if_true, if_false, if_pos, Nat.reduceAdd, Nat.reduceEqDiff, Nat.reduceLeDiff, Nat.reduceLT, reduceIte, Prod.mk.injEq, eq_self, false_and, and_false, reduceCtorEq, Nat.reduceSub, List.reverse_cons, List.reverse_nil, List.nil_append, List.cons_append, Option.toList_some, Option.toList_none, not_true_eq_false, not_false_eq_true, e1, e2, e3, c1, c2, c3, nI_1]
  refine ⟨v1, v2, ?_⟩
  refine KW_callSW hC hCX (by decide +kernel) kl8_127 kcwL_lane (by decide) ((l_lane hr hw hG (xs (i + 1)) (xs (i + 2)))) rfl rfl (by simp [kOkL, kOk, hx5, h7, hx12]) (by simp [kOkS, kOk, hx5, h7, hx12]) (Nat.le_of_ble_eq_true rfl) (by omega) (by omega) ?_
  rintro v M' ⟨rfl, D1, G1, rfl, hr1, ho1, hout⟩
  have ht1 := top_agree ht ho1
  have hm1 := st_agree hm ho1
  rw [hrr] at hr1 hout ⊢
  refine kwL_law_868 hC hE ?_
  simp only [kbL_law_868, mL_law, kblk, kstp, kent, kpad, kget, kst1, kst2, kc2, cond_false, cond_true, kfv, kfit, kOkf, kputv, kputD, kputG, kcpy, kcat, kRR, kNN, true_and, and_true, if_true, if_false, if_pos, Nat.reduceAdd, Nat.reduceEqDiff, Nat.reduceLeDiff, Nat.reduceLT, reduceIte, Prod.mk.injEq, eq_self, false_and, and_false, reduceCtorEq, Nat.reduceSub, List.reverse_cons, List.reverse_nil, List.nil_append, List.cons_append, Option.toList_some, Option.toList_none, not_true_eq_false, not_false_eq_true, e1, e2, e3, c1, c2, c3, nI_1]
  refine ⟨v1, v2, ?_⟩
  refine KW_callV hC (by decide +kernel) kl8_129 (by decide) ((m7_lane ht1 hm1 hw (xs (i + 1)) (xs (i + 2)))) rfl rfl (Nat.le_of_ble_eq_true rfl) rfl h7 (by simp [kOkL, kOk, hx5, h7, hx12]) (by simp [kOkS, kOk, hx5, h7, hx12]) (Nat.le_of_ble_eq_true rfl) (by omega) (by omega) ?_
  rintro v M' hq
  obtain ⟨⟨y, rfl, hy⟩, D2, rfl, hthr, ht2, hm2, ho2⟩ := n_lane hs hq
  rw [hrr] at hy hthr ht2 hm2
  have hr2 : kRep 0 D2 r.2.2 := rep_agree hr1 (fun j hj => ho2 j (Or.inl (by omega)))
  refine kwL_law_886 hC hE ?_
  simp only [kbL_law_886, mL_law, kblk, kstp, kent, kpad, kget, kst1, kst2, kc2, cond_false, cond_true, kfv, kfit, kOkf, kputv, kputD, kputG, kcpy, kcat, kRR, kNN, true_and, and_true, if_true, if_false, if_pos, Nat.reduceAdd, Nat.reduceEqDiff, Nat.reduceLeDiff, Nat.reduceLT, reduceIte, Prod.mk.injEq, eq_self, false_and, and_false, reduceCtorEq, Nat.reduceSub, List.reverse_cons, List.reverse_nil, List.nil_append, List.cons_append, Option.toList_some, Option.toList_none, not_true_eq_false, not_false_eq_true]
  refine KW_callV hC (by decide +kernel) kl8_90 (by decide) ((m7_thrown)) rfl rfl (Nat.le_of_ble_eq_true rfl) rfl h7 (by simp [kOkL, kOk, hx5, h7, hx12]) (by simp [kOkS, kOk, hx5, h7, hx12]) (Nat.le_of_ble_eq_true rfl) (by omega) (by omega) ?_
  rintro v M' ⟨rfl, rfl⟩
  rw [hthr]
  refine kwL_law_892 hC hE ?_
  simp only [kbL_law_892, mL_law, kblk, kstp, kent, kpad, kget, kst1, kst2, kc2, cond_false, cond_true, kfv, kfit, kOkf, kputv, kputD, kputG, kcpy, kcat, kRR, kNN, true_and, and_true, if_true, if_false, if_pos, Nat.reduceAdd, Nat.reduceEqDiff, Nat.reduceLeDiff, Nat.reduceLT, reduceIte, Prod.mk.injEq, eq_self, false_and, and_false, reduceCtorEq, Nat.reduceSub, List.reverse_cons, List.reverse_nil, List.nil_append, List.cons_append, Option.toList_some, Option.toList_none, not_true_eq_false, not_false_eq_true]
  refine ⟨fun _ => ?_, fun z => z.elim⟩
  refine kwL_law_899 hC hE ?_
  simp only [kbL_law_899, mL_law, kblk, kstp, kent, kpad, kget, kst1, kst2, kc2, cond_false, cond_true, kfv, kfit, kOkf, kputv, kputD, kputG, kcpy, kcat, kRR, kNN, true_and, and_true, if_true, if_false, if_pos, Nat.reduceAdd, Nat.reduceEqDiff, Nat.reduceLeDiff, Nat.reduceLT, reduceIte, Prod.mk.injEq, eq_self, false_and, and_false, reduceCtorEq, Nat.reduceSub, List.reverse_cons, List.reverse_nil, List.nil_append, List.cons_append, Option.toList_some, Option.toList_none, not_true_eq_false, not_false_eq_true]
  refine ⟨fun _ => fin D2 G1 _ _ hr2 ht2 hm2, fun z => ?_⟩
  have ho : G1 (12, 9, 0) 0 = y.toInt64 := by rw [hout z, hy z]
  refine kwL_law_904 hC hE ?_
  simp only [kbL_law_904, mL_law, kblk, kstp, kent, kpad, kget, kst1, kst2, kc2, cond_false, cond_true, kfv, kfit, kOkf, kputv, kputD, kputG, kcpy, kcat, kRR, kNN, true_and, and_true, if_true, if_false, if_pos, Nat.reduceAdd, Nat.reduceEqDiff, Nat.reduceLeDiff, Nat.reduceLT, reduceIte, Prod.mk.injEq, eq_self, false_and, and_false, reduceCtorEq, Nat.reduceSub, List.reverse_cons, List.reverse_nil, List.nil_append, List.cons_append, Option.toList_some, Option.toList_none, not_true_eq_false, not_false_eq_true, hx12, cl0, ho, lg_self]
  refine ⟨vp_in_nI (show 0 < 1 by decide) (by decide), fun _ => fin D2 G1 _ _ hr2 ht2 hm2, fun z => z.elim⟩
theorem case_queue (hC : KC X mL_law 8 false (some (L, xs)) 601024 7293034) (hCX : KCX X) (hE : KRet X mL_law E) (hL : L ≤ 2048) (hi : i + 4 ≤ L) (hr : kRep 0 D σ) (ht : mTop D σ) (hm : mSt 2 D σ) (hw : kWf0 b0 h0 0 h0 σ) (hG : tG σ ≤ 90) (hb : b0 ≤ 110000) (hcs : cs + 852 ≤ 601024) (hsl : sl + 6520 ≤ 7293034) (next : lNext X b0 i cs sl) : KW X 919 [some (kR (some (13, 0, 0))), some (kR (some (5, 9, 0))), some (kR (some (7, 4, 0))), some (kR (some (12, 9, 0))), some (kI (nI i)), none, none, none, none] [] (km D G) cs sl := by
  have hs := hw.1
  have hbool := hw.2.2.2.2.2.2
  have hfresh : tC σ < 20 → tZ σ 1 (tC σ) = -1 ∧ tZ σ 4 (tC σ) = 0 := fun h => ⟨(hw.2.2.2.2.2.1.1 _ (Nat.le_refl _) h).1, (hw.2.2.2.2.2.1.1 _ (Nat.le_refl _) h).2.2.2⟩
  obtain ⟨bC, bL, bG, -⟩ := hw.1.1
  have hx5 := kx_live
  have h7 := mLive7
  have hx12 := kx12_live
  have e1 : nI i + 1 = nI (i + 1) := nI_add i 1
  have e2 : nI i + 2 = nI (i + 2) := nI_add i 2
  have e3 : nI i + 3 = nI (i + 3) := nI_add i 3
  have c1 := nI_clamp (show i + 1 < 2 ^ 31 by omega)
  have c2 := nI_clamp (show i + 2 < 2 ^ 31 by omega)
  have c3 := nI_clamp (show i + 3 < 2 ^ 31 by omega)
  have v1 : vp_in (nI (i + 1)) L := vp_in_nI (show i + 1 < L by omega) (by omega)
  have v2 : vp_in (nI (i + 2)) L := vp_in_nI (show i + 2 < L by omega) (by omega)
  have v3 : vp_in (nI (i + 3)) L := vp_in_nI (show i + 3 < L by omega) (by omega)
  have hwf := w_queue hw hG (b2 := b0 + 200) (Nat.le_refl _) (xs (i + 1)) (xs (i + 2))
  generalize hrr : (rQueue σ (xs (i + 1)) (xs (i + 2))) = r at hwf
  have fin : ∀ (D2 : KI → Nat → Int32) (G2 : KI → Nat → Int64) (a b : Int32), kRep 0 D2 r.2.2 → mTop D2 r.2.2 → mSt 2 D2 r.2.2 → KW X 984 [some (kR (some (13, 0, 0))), some (kR (some (5, 9, 0))), some (kR (some (7, 4, 0))), some (kR (some (12, 9, 0))), some (kI (nI i)), some (kI a), some (kI b), none, none] [] (km D2 G2) (cs + 1 + 0 + 0) (sl + 6 + 0 + 0) := by
    intro D2 G2 a b q1 q2 q3
    refine kwL_law_984 hC hE ?_
    simp only [kbL_law_984, mL_law, kblk, kstp, kent, kpad, kget, kst1, kst2, kc2, cond_false, cond_true, kfv, kfit, kOkf, kputv, kputD, kputG, kcpy, kcat, kRR, kNN, true_and, and_true, if_true, if_false, if_pos, Nat.reduceAdd, Nat.reduceEqDiff, Nat.reduceLeDiff, Nat.reduceLT, reduceIte, Prod.mk.injEq, eq_self, false_and, and_false, reduceCtorEq, Nat.reduceSub, List.reverse_cons, List.reverse_nil, List.nil_append, List.cons_append, Option.toList_some, Option.toList_none, not_true_eq_false, not_false_eq_true]
    exact KW.widen (by omega) (by omega) (KW.le (by simp [kLE]) (next D2 G2 r.2.2 q1 q2 q3 hwf))
  refine kwL_law_919 hC hE ?_
  simp only [kbL_law_919, mL_law, kblk, kstp, kent, kpad, kget, kst1, kst2, kc2, cond_false, cond_true, kfv, kfit, kOkf, kputv, kputD, kputG, kcpy, kcat, kRR, kNN, true_and, and_true, if_true, if_false, if_pos, Nat.reduceAdd, Nat.reduceEqDiff, Nat.reduceLeDiff, Nat.reduceLT, reduceIte, Prod.mk.injEq, eq_self, false_and, and_false, reduceCtorEq, Nat.reduceSub, List.reverse_cons, List.reverse_nil, List.nil_append, List.cons_append, Option.toList_some, Option.toList_none, not_true_eq_false, not_false_eq_true, e1, e2, e3, c1, c2, c3, nI_1]
  refine ⟨v1, v2, ?_⟩
  refine KW_callSW hC hCX (by decide +kernel) kl8_130 kcwL_queue (by decide) ((l_queue hr hw hG (xs (i + 1)) (xs (i + 2)))) rfl rfl (by simp [kOkL, kOk, hx5, h7, hx12]) (by simp [kOkS, kOk, hx5, h7, hx12]) (Nat.le_of_ble_eq_true rfl) (by omega) (by omega) ?_
  rintro v M' ⟨rfl, D1, G1, rfl, hr1, ho1, hout⟩
  have ht1 := top_agree ht ho1
  have hm1 := st_agree hm ho1
  rw [hrr] at hr1 hout ⊢
  refine kwL_law_936 hC hE ?_
  simp only [kbL_law_936, mL_law, kblk, kstp, kent, kpad, kget, kst1, kst2, kc2, cond_false, cond_true, kfv, kfit, kOkf, kputv, kputD, kputG, kcpy, kcat, kRR, kNN, true_and, and_true, if_true, if_false, if_pos, Nat.reduceAdd, Nat.reduceEqDiff, Nat.reduceLeDiff, Nat.reduceLT, reduceIte, Prod.mk.injEq, eq_self, false_and, and_false, reduceCtorEq, Nat.reduceSub, List.reverse_cons, List.reverse_nil, List.nil_append, List.cons_append, Option.toList_some, Option.toList_none, not_true_eq_false, not_false_eq_true, e1, e2, e3, c1, c2, c3, nI_1]
  refine ⟨v1, v2, ?_⟩
  refine KW_callV hC (by decide +kernel) kl8_132 (by decide) ((m7_queue ht1 hm1 hs (xs (i + 1)) (xs (i + 2)))) rfl rfl (Nat.le_of_ble_eq_true rfl) rfl h7 (by simp [kOkL, kOk, hx5, h7, hx12]) (by simp [kOkS, kOk, hx5, h7, hx12]) (Nat.le_of_ble_eq_true rfl) (by omega) (by omega) ?_
  rintro v M' hq
  obtain ⟨⟨y, rfl, hy⟩, D2, rfl, hthr, ht2, hm2, ho2⟩ := n_queue hs hq
  rw [hrr] at hy hthr ht2 hm2
  have hr2 : kRep 0 D2 r.2.2 := rep_agree hr1 (fun j hj => ho2 j (Or.inl (by omega)))
  refine kwL_law_954 hC hE ?_
  simp only [kbL_law_954, mL_law, kblk, kstp, kent, kpad, kget, kst1, kst2, kc2, cond_false, cond_true, kfv, kfit, kOkf, kputv, kputD, kputG, kcpy, kcat, kRR, kNN, true_and, and_true, if_true, if_false, if_pos, Nat.reduceAdd, Nat.reduceEqDiff, Nat.reduceLeDiff, Nat.reduceLT, reduceIte, Prod.mk.injEq, eq_self, false_and, and_false, reduceCtorEq, Nat.reduceSub, List.reverse_cons, List.reverse_nil, List.nil_append, List.cons_append, Option.toList_some, Option.toList_none, not_true_eq_false, not_false_eq_true]
  refine KW_callV hC (by decide +kernel) kl8_90 (by decide) ((m7_thrown)) rfl rfl (Nat.le_of_ble_eq_true rfl) rfl h7 (by simp [kOkL, kOk, hx5, h7, hx12]) (by simp [kOkS, kOk, hx5, h7, hx12]) (Nat.le_of_ble_eq_true rfl) (by omega) (by omega) ?_
  rintro v M' ⟨rfl, rfl⟩
  rw [hthr]
  refine kwL_law_960 hC hE ?_
  simp only [kbL_law_960, mL_law, kblk, kstp, kent, kpad, kget, kst1, kst2, kc2, cond_false, cond_true, kfv, kfit, kOkf, kputv, kputD, kputG, kcpy, kcat, kRR, kNN, true_and, and_true, if_true, if_false, if_pos, Nat.reduceAdd, Nat.reduceEqDiff, Nat.reduceLeDiff, Nat.reduceLT, reduceIte, Prod.mk.injEq, eq_self, false_and, and_false, reduceCtorEq, Nat.reduceSub, List.reverse_cons, List.reverse_nil, List.nil_append, List.cons_append, Option.toList_some, Option.toList_none, not_true_eq_false, not_false_eq_true]
  refine ⟨fun _ => ?_, fun z => z.elim⟩
  refine kwL_law_967 hC hE ?_
  simp only [kbL_law_967, mL_law, kblk, kstp, kent, kpad, kget, kst1, kst2, kc2, cond_false, cond_true, kfv, kfit, kOkf, kputv, kputD, kputG, kcpy, kcat, kRR, kNN, true_and, and_true, if_true, if_false, if_pos, Nat.reduceAdd, Nat.reduceEqDiff, Nat.reduceLeDiff, Nat.reduceLT, reduceIte, Prod.mk.injEq, eq_self, false_and, and_false, reduceCtorEq, Nat.reduceSub, List.reverse_cons, List.reverse_nil, List.nil_append, List.cons_append, Option.toList_some, Option.toList_none, not_true_eq_false, not_false_eq_true]
  refine ⟨fun _ => fin D2 G1 _ _ hr2 ht2 hm2, fun z => ?_⟩
  have ho : G1 (12, 9, 0) 0 = y.toInt64 := by rw [hout z, hy z]
  refine kwL_law_972 hC hE ?_
  simp only [kbL_law_972, mL_law, kblk, kstp, kent, kpad, kget, kst1, kst2, kc2, cond_false, cond_true, kfv, kfit, kOkf, kputv, kputD, kputG, kcpy, kcat, kRR, kNN, true_and, and_true, if_true, if_false, if_pos, Nat.reduceAdd, Nat.reduceEqDiff, Nat.reduceLeDiff, Nat.reduceLT, reduceIte, Prod.mk.injEq, eq_self, false_and, and_false, reduceCtorEq, Nat.reduceSub, List.reverse_cons, List.reverse_nil, List.nil_append, List.cons_append, Option.toList_some, Option.toList_none, not_true_eq_false, not_false_eq_true, hx12, cl0, ho, lg_self]
  refine ⟨vp_in_nI (show 0 < 1 by decide) (by decide), fun _ => fin D2 G1 _ _ hr2 ht2 hm2, fun z => z.elim⟩
theorem case_shed (hC : KC X mL_law 8 false (some (L, xs)) 601024 7293034) (hCX : KCX X) (hE : KRet X mL_law E) (hL : L ≤ 2048) (hi : i + 4 ≤ L) (hr : kRep 0 D σ) (ht : mTop D σ) (hm : mSt 2 D σ) (hw : kWf0 b0 h0 0 h0 σ) (hG : tG σ ≤ 90) (hb : b0 ≤ 110000) (hcs : cs + 852 ≤ 601024) (hsl : sl + 6520 ≤ 7293034) (next : lNext X b0 i cs sl) : KW X 987 [some (kR (some (13, 0, 0))), some (kR (some (5, 9, 0))), some (kR (some (7, 4, 0))), some (kR (some (12, 9, 0))), some (kI (nI i)), none, none, none, none] [] (km D G) cs sl := by
  have hs := hw.1
  have hbool := hw.2.2.2.2.2.2
  have hfresh : tC σ < 20 → tZ σ 1 (tC σ) = -1 ∧ tZ σ 4 (tC σ) = 0 := fun h => ⟨(hw.2.2.2.2.2.1.1 _ (Nat.le_refl _) h).1, (hw.2.2.2.2.2.1.1 _ (Nat.le_refl _) h).2.2.2⟩
  obtain ⟨bC, bL, bG, -⟩ := hw.1.1
  have hx5 := kx_live
  have h7 := mLive7
  have hx12 := kx12_live
  have e1 : nI i + 1 = nI (i + 1) := nI_add i 1
  have e2 : nI i + 2 = nI (i + 2) := nI_add i 2
  have e3 : nI i + 3 = nI (i + 3) := nI_add i 3
  have c1 := nI_clamp (show i + 1 < 2 ^ 31 by omega)
  have c2 := nI_clamp (show i + 2 < 2 ^ 31 by omega)
  have c3 := nI_clamp (show i + 3 < 2 ^ 31 by omega)
  have v1 : vp_in (nI (i + 1)) L := vp_in_nI (show i + 1 < L by omega) (by omega)
  have v2 : vp_in (nI (i + 2)) L := vp_in_nI (show i + 2 < L by omega) (by omega)
  have v3 : vp_in (nI (i + 3)) L := vp_in_nI (show i + 3 < L by omega) (by omega)
  have hwf := w_shed hw hG (b2 := b0 + 200) (Nat.le_refl _) (xs (i + 1))
  generalize hrr : (rShed σ (xs (i + 1))) = r at hwf
  have fin : ∀ (D2 : KI → Nat → Int32) (G2 : KI → Nat → Int64) (a b : Int32), kRep 0 D2 r.2.2 → mTop D2 r.2.2 → mSt 2 D2 r.2.2 → KW X 1040 [some (kR (some (13, 0, 0))), some (kR (some (5, 9, 0))), some (kR (some (7, 4, 0))), some (kR (some (12, 9, 0))), some (kI (nI i)), some (kI a), some (kI b), none, none] [] (km D2 G2) (cs + 1 + 0 + 0) (sl + 6 + 0 + 0) := by
    intro D2 G2 a b q1 q2 q3
    refine kwL_law_1040 hC hE ?_
    simp only [kbL_law_1040, mL_law, kblk, kstp, kent, kpad, kget, kst1, kst2, kc2, cond_false, cond_true, kfv, kfit, kOkf, kputv, kputD, kputG, kcpy, kcat, kRR, kNN, true_and, and_true, if_true, if_false, if_pos, Nat.reduceAdd, Nat.reduceEqDiff, Nat.reduceLeDiff, Nat.reduceLT, reduceIte, Prod.mk.injEq, eq_self, false_and, and_false, reduceCtorEq, Nat.reduceSub, List.reverse_cons, List.reverse_nil, List.nil_append, List.cons_append, Option.toList_some, Option.toList_none, not_true_eq_false, not_false_eq_true]
    exact KW.widen (by omega) (by omega) (KW.le (by simp [kLE]) (next D2 G2 r.2.2 q1 q2 q3 hwf))
  refine kwL_law_987 hC hE ?_
  simp only [kbL_law_987, mL_law, kblk, kstp, kent, kpad, kget, kst1, kst2, kc2, cond_false, cond_true, kfv, kfit, kOkf, kputv, kputD, kputG, kcpy, kcat, kRR, kNN, true_and, and_true, if_true, if_false, if_pos, Nat.reduceAdd, Nat.reduceEqDiff, Nat.reduceLeDiff, Nat.reduceLT, reduceIte, Prod.mk.injEq, eq_self, false_and, and_false, reduceCtorEq, Nat.reduceSub, List.reverse_cons, List.reverse_nil, List.nil_append, List.cons_append, Option.toList_some, Option.toList_none, not_true_eq_false, not_false_eq_true, e1, e2, e3, c1, c2, c3, nI_1]
  refine ⟨v1, ?_⟩
  refine KW_callSW hC hCX (by decide +kernel) kl8_133 kcwL_shed (by decide) ((l_shed hr hw hG (xs (i + 1)))) rfl rfl (by simp [kOkL, kOk, hx5, h7, hx12]) (by simp [kOkS, kOk, hx5, h7, hx12]) (Nat.le_of_ble_eq_true rfl) (by omega) (by omega) ?_
  rintro v M' ⟨rfl, D1, G1, rfl, hr1, ho1, hout⟩
  have ht1 := top_agree ht ho1
  have hm1 := st_agree hm ho1
  rw [hrr] at hr1 hout ⊢
  refine kwL_law_998 hC hE ?_
  simp only [kbL_law_998, mL_law, kblk, kstp, kent, kpad, kget, kst1, kst2, kc2, cond_false, cond_true, kfv, kfit, kOkf, kputv, kputD, kputG, kcpy, kcat, kRR, kNN, true_and, and_true, if_true, if_false, if_pos, Nat.reduceAdd, Nat.reduceEqDiff, Nat.reduceLeDiff, Nat.reduceLT, reduceIte, Prod.mk.injEq, eq_self, false_and, and_false, reduceCtorEq, Nat.reduceSub, List.reverse_cons, List.reverse_nil, List.nil_append, List.cons_append, Option.toList_some, Option.toList_none, not_true_eq_false, not_false_eq_true, e1, e2, e3, c1, c2, c3, nI_1]
  refine ⟨v1, ?_⟩
  refine KW_callV hC (by decide +kernel) kl8_135 (by decide) ((m7_shed ht1 hm1 hs (xs (i + 1)))) rfl rfl (Nat.le_of_ble_eq_true rfl) rfl h7 (by simp [kOkL, kOk, hx5, h7, hx12]) (by simp [kOkS, kOk, hx5, h7, hx12]) (Nat.le_of_ble_eq_true rfl) (by omega) (by omega) ?_
  rintro v M' hq
  obtain ⟨⟨y, rfl, hy⟩, D2, rfl, hthr, ht2, hm2, ho2⟩ := n_shed hs hq
  rw [hrr] at hy hthr ht2 hm2
  have hr2 : kRep 0 D2 r.2.2 := rep_agree hr1 (fun j hj => ho2 j (Or.inl (by omega)))
  refine kwL_law_1010 hC hE ?_
  simp only [kbL_law_1010, mL_law, kblk, kstp, kent, kpad, kget, kst1, kst2, kc2, cond_false, cond_true, kfv, kfit, kOkf, kputv, kputD, kputG, kcpy, kcat, kRR, kNN, true_and, and_true, if_true, if_false, if_pos, Nat.reduceAdd, Nat.reduceEqDiff, Nat.reduceLeDiff, Nat.reduceLT, reduceIte, Prod.mk.injEq, eq_self, false_and, and_false, reduceCtorEq, Nat.reduceSub, List.reverse_cons, List.reverse_nil, List.nil_append, List.cons_append, Option.toList_some, Option.toList_none, not_true_eq_false, not_false_eq_true]
  refine KW_callV hC (by decide +kernel) kl8_90 (by decide) ((m7_thrown)) rfl rfl (Nat.le_of_ble_eq_true rfl) rfl h7 (by simp [kOkL, kOk, hx5, h7, hx12]) (by simp [kOkS, kOk, hx5, h7, hx12]) (Nat.le_of_ble_eq_true rfl) (by omega) (by omega) ?_
  rintro v M' ⟨rfl, rfl⟩
  rw [hthr]
  refine kwL_law_1016 hC hE ?_
  simp only [kbL_law_1016, mL_law, kblk, kstp, kent, kpad, kget, kst1, kst2, kc2, cond_false, cond_true, kfv, kfit, kOkf, kputv, kputD, kputG, kcpy, kcat, kRR, kNN, true_and, and_true, if_true, if_false, if_pos, Nat.reduceAdd, Nat.reduceEqDiff, Nat.reduceLeDiff, Nat.reduceLT, reduceIte, Prod.mk.injEq, eq_self, false_and, and_false, reduceCtorEq, Nat.reduceSub, List.reverse_cons, List.reverse_nil, List.nil_append, List.cons_append, Option.toList_some, Option.toList_none, not_true_eq_false, not_false_eq_true]
  refine ⟨fun _ => ?_, fun z => z.elim⟩
  refine kwL_law_1023 hC hE ?_
  simp only [kbL_law_1023, mL_law, kblk, kstp, kent, kpad, kget, kst1, kst2, kc2, cond_false, cond_true, kfv, kfit, kOkf, kputv, kputD, kputG, kcpy, kcat, kRR, kNN, true_and, and_true, if_true, if_false, if_pos, Nat.reduceAdd, Nat.reduceEqDiff, Nat.reduceLeDiff, Nat.reduceLT, reduceIte, Prod.mk.injEq, eq_self, false_and, and_false, reduceCtorEq, Nat.reduceSub, List.reverse_cons, List.reverse_nil, List.nil_append, List.cons_append, Option.toList_some, Option.toList_none, not_true_eq_false, not_false_eq_true]
  refine ⟨fun _ => fin D2 G1 _ _ hr2 ht2 hm2, fun z => ?_⟩
  have ho : G1 (12, 9, 0) 0 = y.toInt64 := by rw [hout z, hy z]
  refine kwL_law_1028 hC hE ?_
  simp only [kbL_law_1028, mL_law, kblk, kstp, kent, kpad, kget, kst1, kst2, kc2, cond_false, cond_true, kfv, kfit, kOkf, kputv, kputD, kputG, kcpy, kcat, kRR, kNN, true_and, and_true, if_true, if_false, if_pos, Nat.reduceAdd, Nat.reduceEqDiff, Nat.reduceLeDiff, Nat.reduceLT, reduceIte, Prod.mk.injEq, eq_self, false_and, and_false, reduceCtorEq, Nat.reduceSub, List.reverse_cons, List.reverse_nil, List.nil_append, List.cons_append, Option.toList_some, Option.toList_none, not_true_eq_false, not_false_eq_true, hx12, cl0, ho, lg_self]
  refine ⟨vp_in_nI (show 0 < 1 by decide) (by decide), fun _ => fin D2 G1 _ _ hr2 ht2 hm2, fun z => z.elim⟩
theorem case_pass (hC : KC X mL_law 8 false (some (L, xs)) 601024 7293034) (hCX : KCX X) (hE : KRet X mL_law E) (hL : L ≤ 2048) (hi : i + 4 ≤ L) (hr : kRep 0 D σ) (ht : mTop D σ) (hm : mSt 2 D σ) (hw : kWf0 b0 h0 0 h0 σ) (hG : tG σ ≤ 90) (hb : b0 ≤ 110000) (hcs : cs + 852 ≤ 601024) (hsl : sl + 6520 ≤ 7293034) (next : lNext X b0 i cs sl) : KW X 1043 [some (kR (some (13, 0, 0))), some (kR (some (5, 9, 0))), some (kR (some (7, 4, 0))), some (kR (some (12, 9, 0))), some (kI (nI i)), none, none, none, none] [] (km D G) cs sl := by
  have hs := hw.1
  have hbool := hw.2.2.2.2.2.2
  have hfresh : tC σ < 20 → tZ σ 1 (tC σ) = -1 ∧ tZ σ 4 (tC σ) = 0 := fun h => ⟨(hw.2.2.2.2.2.1.1 _ (Nat.le_refl _) h).1, (hw.2.2.2.2.2.1.1 _ (Nat.le_refl _) h).2.2.2⟩
  obtain ⟨bC, bL, bG, -⟩ := hw.1.1
  have hx5 := kx_live
  have h7 := mLive7
  have hx12 := kx12_live
  have e1 : nI i + 1 = nI (i + 1) := nI_add i 1
  have e2 : nI i + 2 = nI (i + 2) := nI_add i 2
  have e3 : nI i + 3 = nI (i + 3) := nI_add i 3
  have c1 := nI_clamp (show i + 1 < 2 ^ 31 by omega)
  have c2 := nI_clamp (show i + 2 < 2 ^ 31 by omega)
  have c3 := nI_clamp (show i + 3 < 2 ^ 31 by omega)
  have v1 : vp_in (nI (i + 1)) L := vp_in_nI (show i + 1 < L by omega) (by omega)
  have v2 : vp_in (nI (i + 2)) L := vp_in_nI (show i + 2 < L by omega) (by omega)
  have v3 : vp_in (nI (i + 3)) L := vp_in_nI (show i + 3 < L by omega) (by omega)
  have hwf := w_pass hw hG (b2 := b0 + 200) (Nat.le_refl _) (xs (i + 1))
  generalize hrr : (rPass σ (xs (i + 1))) = r at hwf
  have fin : ∀ (D2 : KI → Nat → Int32) (G2 : KI → Nat → Int64) (a b : Int32), kRep 0 D2 r.2.2 → mTop D2 r.2.2 → mSt 2 D2 r.2.2 → KW X 1096 [some (kR (some (13, 0, 0))), some (kR (some (5, 9, 0))), some (kR (some (7, 4, 0))), some (kR (some (12, 9, 0))), some (kI (nI i)), some (kI a), some (kI b), none, none] [] (km D2 G2) (cs + 1 + 0 + 0) (sl + 6 + 0 + 0) := by
    intro D2 G2 a b q1 q2 q3
    refine kwL_law_1096 hC hE ?_
    simp only [kbL_law_1096, mL_law, kblk, kstp, kent, kpad, kget, kst1, kst2, kc2, cond_false, cond_true, kfv, kfit, kOkf, kputv, kputD, kputG, kcpy, kcat, kRR, kNN, true_and, and_true, if_true, if_false, if_pos, Nat.reduceAdd, Nat.reduceEqDiff, Nat.reduceLeDiff, Nat.reduceLT, reduceIte, Prod.mk.injEq, eq_self, false_and, and_false, reduceCtorEq, Nat.reduceSub, List.reverse_cons, List.reverse_nil, List.nil_append, List.cons_append, Option.toList_some, Option.toList_none, not_true_eq_false, not_false_eq_true]
    exact KW.widen (by omega) (by omega) (KW.le (by simp [kLE]) (next D2 G2 r.2.2 q1 q2 q3 hwf))
  refine kwL_law_1043 hC hE ?_
  simp only [kbL_law_1043, mL_law, kblk, kstp, kent, kpad, kget, kst1, kst2, kc2, cond_false, cond_true, kfv, kfit, kOkf, kputv, kputD, kputG, kcpy, kcat, kRR, kNN, true_and, and_true, if_true, if_false, if_pos, Nat.reduceAdd, Nat.reduceEqDiff, Nat.reduceLeDiff, Nat.reduceLT, reduceIte, Prod.mk.injEq, eq_self, false_and, and_false, reduceCtorEq, Nat.reduceSub, List.reverse_cons, List.reverse_nil, List.nil_append, List.cons_append, Option.toList_some, Option.toList_none, not_true_eq_false, not_false_eq_true, e1, e2, e3, c1, c2, c3, nI_1]
  refine ⟨v1, ?_⟩
  refine KW_callSW hC hCX (by decide +kernel) kl8_136 kcwL_pass (by decide) ((l_pass hr hw hG (xs (i + 1)))) rfl rfl (by simp [kOkL, kOk, hx5, h7, hx12]) (by simp [kOkS, kOk, hx5, h7, hx12]) (Nat.le_of_ble_eq_true rfl) (by omega) (by omega) ?_
  rintro v M' ⟨rfl, D1, G1, rfl, hr1, ho1, hout⟩
  have ht1 := top_agree ht ho1
  have hm1 := st_agree hm ho1
  rw [hrr] at hr1 hout ⊢
  refine kwL_law_1054 hC hE ?_
  simp only [kbL_law_1054, mL_law, kblk, kstp, kent, kpad, kget, kst1, kst2, kc2, cond_false, cond_true, kfv, kfit, kOkf, kputv, kputD, kputG, kcpy, kcat, kRR, kNN, true_and, and_true, if_true, if_false, if_pos, Nat.reduceAdd, Nat.reduceEqDiff, Nat.reduceLeDiff, Nat.reduceLT, reduceIte, Prod.mk.injEq, eq_self, false_and, and_false, reduceCtorEq, Nat.reduceSub, List.reverse_cons, List.reverse_nil, List.nil_append, List.cons_append, Option.toList_some, Option.toList_none, not_true_eq_false, not_false_eq_true, e1, e2, e3, c1, c2, c3, nI_1]
  refine ⟨v1, ?_⟩
  refine KW_callV hC (by decide +kernel) kl8_138 (by decide) ((m7_pass ht1 hm1 hw (by omega) (xs (i + 1)))) rfl rfl (Nat.le_of_ble_eq_true rfl) rfl h7 (by simp [kOkL, kOk, hx5, h7, hx12]) (by simp [kOkS, kOk, hx5, h7, hx12]) (Nat.le_of_ble_eq_true rfl) (by omega) (by omega) ?_
  rintro v M' hq
  obtain ⟨⟨y, rfl, hy⟩, D2, rfl, hthr, ht2, hm2, ho2⟩ := n_pass hs hq
  rw [hrr] at hy hthr ht2 hm2
  have hr2 : kRep 0 D2 r.2.2 := rep_agree hr1 (fun j hj => ho2 j (Or.inl (by omega)))
  refine kwL_law_1066 hC hE ?_
  simp only [kbL_law_1066, mL_law, kblk, kstp, kent, kpad, kget, kst1, kst2, kc2, cond_false, cond_true, kfv, kfit, kOkf, kputv, kputD, kputG, kcpy, kcat, kRR, kNN, true_and, and_true, if_true, if_false, if_pos, Nat.reduceAdd, Nat.reduceEqDiff, Nat.reduceLeDiff, Nat.reduceLT, reduceIte, Prod.mk.injEq, eq_self, false_and, and_false, reduceCtorEq, Nat.reduceSub, List.reverse_cons, List.reverse_nil, List.nil_append, List.cons_append, Option.toList_some, Option.toList_none, not_true_eq_false, not_false_eq_true]
  refine KW_callV hC (by decide +kernel) kl8_90 (by decide) ((m7_thrown)) rfl rfl (Nat.le_of_ble_eq_true rfl) rfl h7 (by simp [kOkL, kOk, hx5, h7, hx12]) (by simp [kOkS, kOk, hx5, h7, hx12]) (Nat.le_of_ble_eq_true rfl) (by omega) (by omega) ?_
  rintro v M' ⟨rfl, rfl⟩
  rw [hthr]
  refine kwL_law_1072 hC hE ?_
  simp only [kbL_law_1072, mL_law, kblk, kstp, kent, kpad, kget, kst1, kst2, kc2, cond_false, cond_true, kfv, kfit, kOkf, kputv, kputD, kputG, kcpy, kcat, kRR, kNN, true_and, and_true, if_true, if_false, if_pos, Nat.reduceAdd, Nat.reduceEqDiff, Nat.reduceLeDiff, Nat.reduceLT, reduceIte, Prod.mk.injEq, eq_self, false_and, and_false, reduceCtorEq, Nat.reduceSub, List.reverse_cons, List.reverse_nil, List.nil_append, List.cons_append, Option.toList_some, Option.toList_none, not_true_eq_false, not_false_eq_true]
  refine ⟨fun _ => ?_, fun z => z.elim⟩
  refine kwL_law_1079 hC hE ?_
  simp only [kbL_law_1079, mL_law, kblk, kstp, kent, kpad, kget, kst1, kst2, kc2, cond_false, cond_true, kfv, kfit, kOkf, kputv, kputD, kputG, kcpy, kcat, kRR, kNN, true_and, and_true, if_true, if_false, if_pos, Nat.reduceAdd, Nat.reduceEqDiff, Nat.reduceLeDiff, Nat.reduceLT, reduceIte, Prod.mk.injEq, eq_self, false_and, and_false, reduceCtorEq, Nat.reduceSub, List.reverse_cons, List.reverse_nil, List.nil_append, List.cons_append, Option.toList_some, Option.toList_none, not_true_eq_false, not_false_eq_true]
  refine ⟨fun _ => fin D2 G1 _ _ hr2 ht2 hm2, fun z => ?_⟩
  have ho : G1 (12, 9, 0) 0 = y.toInt64 := by rw [hout z, hy z]
  refine kwL_law_1084 hC hE ?_
  simp only [kbL_law_1084, mL_law, kblk, kstp, kent, kpad, kget, kst1, kst2, kc2, cond_false, cond_true, kfv, kfit, kOkf, kputv, kputD, kputG, kcpy, kcat, kRR, kNN, true_and, and_true, if_true, if_false, if_pos, Nat.reduceAdd, Nat.reduceEqDiff, Nat.reduceLeDiff, Nat.reduceLT, reduceIte, Prod.mk.injEq, eq_self, false_and, and_false, reduceCtorEq, Nat.reduceSub, List.reverse_cons, List.reverse_nil, List.nil_append, List.cons_append, Option.toList_some, Option.toList_none, not_true_eq_false, not_false_eq_true, hx12, cl0, ho, lg_self]
  refine ⟨vp_in_nI (show 0 < 1 by decide) (by decide), fun _ => fin D2 G1 _ _ hr2 ht2 hm2, fun z => z.elim⟩
theorem case_count (hC : KC X mL_law 8 false (some (L, xs)) 601024 7293034) (hCX : KCX X) (hE : KRet X mL_law E) (hL : L ≤ 2048) (hi : i + 4 ≤ L) (hr : kRep 0 D σ) (ht : mTop D σ) (hm : mSt 2 D σ) (hw : kWf0 b0 h0 0 h0 σ) (hG : tG σ ≤ 90) (hb : b0 ≤ 110000) (hcs : cs + 852 ≤ 601024) (hsl : sl + 6520 ≤ 7293034) (next : lNext X b0 i cs sl) : KW X 1099 [some (kR (some (13, 0, 0))), some (kR (some (5, 9, 0))), some (kR (some (7, 4, 0))), some (kR (some (12, 9, 0))), some (kI (nI i)), none, none, none, none] [] (km D G) cs sl := by
  have hs := hw.1
  have hbool := hw.2.2.2.2.2.2
  have hfresh : tC σ < 20 → tZ σ 1 (tC σ) = -1 ∧ tZ σ 4 (tC σ) = 0 := fun h => ⟨(hw.2.2.2.2.2.1.1 _ (Nat.le_refl _) h).1, (hw.2.2.2.2.2.1.1 _ (Nat.le_refl _) h).2.2.2⟩
  obtain ⟨bC, bL, bG, -⟩ := hw.1.1
  have hx5 := kx_live
  have h7 := mLive7
  have hx12 := kx12_live
  have e1 : nI i + 1 = nI (i + 1) := nI_add i 1
  have e2 : nI i + 2 = nI (i + 2) := nI_add i 2
  have e3 : nI i + 3 = nI (i + 3) := nI_add i 3
  have c1 := nI_clamp (show i + 1 < 2 ^ 31 by omega)
  have c2 := nI_clamp (show i + 2 < 2 ^ 31 by omega)
  have c3 := nI_clamp (show i + 3 < 2 ^ 31 by omega)
  have v1 : vp_in (nI (i + 1)) L := vp_in_nI (show i + 1 < L by omega) (by omega)
  have v2 : vp_in (nI (i + 2)) L := vp_in_nI (show i + 2 < L by omega) (by omega)
  have v3 : vp_in (nI (i + 3)) L := vp_in_nI (show i + 3 < L by omega) (by omega)
  have hwf := w_count hw hG (b2 := b0 + 200) (Nat.le_refl _) (xs (i + 1))
  generalize hrr : (rCount σ (xs (i + 1))) = r at hwf
  have fin : ∀ (D2 : KI → Nat → Int32) (G2 : KI → Nat → Int64) (a b : Int32), kRep 0 D2 r.2.2 → mTop D2 r.2.2 → mSt 2 D2 r.2.2 → KW X 1152 [some (kR (some (13, 0, 0))), some (kR (some (5, 9, 0))), some (kR (some (7, 4, 0))), some (kR (some (12, 9, 0))), some (kI (nI i)), some (kI a), some (kI b), none, none] [] (km D2 G2) (cs + 1 + 1 + 0) (sl + 6 + 13 + 0) := by
    intro D2 G2 a b q1 q2 q3
    refine kwL_law_1152 hC hE ?_
    simp only [kbL_law_1152, mL_law, kblk, kstp, kent, kpad, kget, kst1, kst2, kc2, cond_false, cond_true, kfv, kfit, kOkf, kputv, kputD, kputG, kcpy, kcat, kRR, kNN, true_and, and_true, if_true, if_false, if_pos, Nat.reduceAdd, Nat.reduceEqDiff, Nat.reduceLeDiff, Nat.reduceLT, reduceIte, Prod.mk.injEq, eq_self, false_and, and_false, reduceCtorEq, Nat.reduceSub, List.reverse_cons, List.reverse_nil, List.nil_append, List.cons_append, Option.toList_some, Option.toList_none, not_true_eq_false, not_false_eq_true]
    exact KW.widen (by omega) (by omega) (KW.le (by simp [kLE]) (next D2 G2 r.2.2 q1 q2 q3 hwf))
  refine kwL_law_1099 hC hE ?_
  simp only [kbL_law_1099, mL_law, kblk, kstp, kent, kpad, kget, kst1, kst2, kc2, cond_false, cond_true, kfv, kfit, kOkf, kputv, kputD, kputG, kcpy, kcat, kRR, kNN, true_and, and_true, if_true, if_false, if_pos, Nat.reduceAdd, Nat.reduceEqDiff, Nat.reduceLeDiff, Nat.reduceLT, reduceIte, Prod.mk.injEq, eq_self, false_and, and_false, reduceCtorEq, Nat.reduceSub, List.reverse_cons, List.reverse_nil, List.nil_append, List.cons_append, Option.toList_some, Option.toList_none, not_true_eq_false, not_false_eq_true, e1, e2, e3, c1, c2, c3, nI_1]
  refine ⟨v1, ?_⟩
  refine KW_callSW hC hCX (by decide +kernel) kl8_139 kcwL_count (by decide) ((l_count hr hw hG (xs (i + 1)))) rfl rfl (by simp [kOkL, kOk, hx5, h7, hx12]) (by simp [kOkS, kOk, hx5, h7, hx12]) (Nat.le_of_ble_eq_true rfl) (by omega) (by omega) ?_
  rintro v M' ⟨rfl, D1, G1, rfl, hr1, ho1, hout⟩
  have ht1 := top_agree ht ho1
  have hm1 := st_agree hm ho1
  rw [hrr] at hr1 hout ⊢
  refine kwL_law_1110 hC hE ?_
  simp only [kbL_law_1110, mL_law, kblk, kstp, kent, kpad, kget, kst1, kst2, kc2, cond_false, cond_true, kfv, kfit, kOkf, kputv, kputD, kputG, kcpy, kcat, kRR, kNN, true_and, and_true, if_true, if_false, if_pos, Nat.reduceAdd, Nat.reduceEqDiff, Nat.reduceLeDiff, Nat.reduceLT, reduceIte, Prod.mk.injEq, eq_self, false_and, and_false, reduceCtorEq, Nat.reduceSub, List.reverse_cons, List.reverse_nil, List.nil_append, List.cons_append, Option.toList_some, Option.toList_none, not_true_eq_false, not_false_eq_true, e1, e2, e3, c1, c2, c3, nI_1]
  refine ⟨v1, ?_⟩
  refine KW_callV hC (by decide +kernel) kl8_141 (by decide) ((m7_count ht1 hm1 hw.1.1 (xs (i + 1)))) rfl rfl (Nat.le_of_ble_eq_true rfl) rfl h7 (by simp [kOkL, kOk, hx5, h7, hx12]) (by simp [kOkS, kOk, hx5, h7, hx12]) (Nat.le_of_ble_eq_true rfl) (by omega) (by omega) ?_
  rintro v M' hq
  obtain ⟨⟨y, rfl, hy⟩, D2, rfl, hthr, ht2, hm2, ho2⟩ := n_count hs hq
  rw [hrr] at hy hthr ht2 hm2
  have hr2 : kRep 0 D2 r.2.2 := rep_agree hr1 (fun j hj => ho2 j (Or.inl (by omega)))
  refine kwL_law_1122 hC hE ?_
  simp only [kbL_law_1122, mL_law, kblk, kstp, kent, kpad, kget, kst1, kst2, kc2, cond_false, cond_true, kfv, kfit, kOkf, kputv, kputD, kputG, kcpy, kcat, kRR, kNN, true_and, and_true, if_true, if_false, if_pos, Nat.reduceAdd, Nat.reduceEqDiff, Nat.reduceLeDiff, Nat.reduceLT, reduceIte, Prod.mk.injEq, eq_self, false_and, and_false, reduceCtorEq, Nat.reduceSub, List.reverse_cons, List.reverse_nil, List.nil_append, List.cons_append, Option.toList_some, Option.toList_none, not_true_eq_false, not_false_eq_true]
  refine KW_callV hC (by decide +kernel) kl8_90 (by decide) ((m7_thrown)) rfl rfl (Nat.le_of_ble_eq_true rfl) rfl h7 (by simp [kOkL, kOk, hx5, h7, hx12]) (by simp [kOkS, kOk, hx5, h7, hx12]) (Nat.le_of_ble_eq_true rfl) (by omega) (by omega) ?_
  rintro v M' ⟨rfl, rfl⟩
  rw [hthr]
  refine kwL_law_1128 hC hE ?_
  simp only [kbL_law_1128, mL_law, kblk, kstp, kent, kpad, kget, kst1, kst2, kc2, cond_false, cond_true, kfv, kfit, kOkf, kputv, kputD, kputG, kcpy, kcat, kRR, kNN, true_and, and_true, if_true, if_false, if_pos, Nat.reduceAdd, Nat.reduceEqDiff, Nat.reduceLeDiff, Nat.reduceLT, reduceIte, Prod.mk.injEq, eq_self, false_and, and_false, reduceCtorEq, Nat.reduceSub, List.reverse_cons, List.reverse_nil, List.nil_append, List.cons_append, Option.toList_some, Option.toList_none, not_true_eq_false, not_false_eq_true]
  refine ⟨fun _ => ?_, fun z => z.elim⟩
  refine kwL_law_1135 hC hE ?_
  simp only [kbL_law_1135, mL_law, kblk, kstp, kent, kpad, kget, kst1, kst2, kc2, cond_false, cond_true, kfv, kfit, kOkf, kputv, kputD, kputG, kcpy, kcat, kRR, kNN, true_and, and_true, if_true, if_false, if_pos, Nat.reduceAdd, Nat.reduceEqDiff, Nat.reduceLeDiff, Nat.reduceLT, reduceIte, Prod.mk.injEq, eq_self, false_and, and_false, reduceCtorEq, Nat.reduceSub, List.reverse_cons, List.reverse_nil, List.nil_append, List.cons_append, Option.toList_some, Option.toList_none, not_true_eq_false, not_false_eq_true]
  refine ⟨fun _ => fin D2 G1 _ _ hr2 ht2 hm2, fun z => ?_⟩
  have ho : G1 (12, 9, 0) 0 = y.toInt64 := by rw [hout z, hy z]
  refine kwL_law_1140 hC hE ?_
  simp only [kbL_law_1140, mL_law, kblk, kstp, kent, kpad, kget, kst1, kst2, kc2, cond_false, cond_true, kfv, kfit, kOkf, kputv, kputD, kputG, kcpy, kcat, kRR, kNN, true_and, and_true, if_true, if_false, if_pos, Nat.reduceAdd, Nat.reduceEqDiff, Nat.reduceLeDiff, Nat.reduceLT, reduceIte, Prod.mk.injEq, eq_self, false_and, and_false, reduceCtorEq, Nat.reduceSub, List.reverse_cons, List.reverse_nil, List.nil_append, List.cons_append, Option.toList_some, Option.toList_none, not_true_eq_false, not_false_eq_true, hx12, cl0, ho, lg_self]
  refine ⟨vp_in_nI (show 0 < 1 by decide) (by decide), fun _ => fin D2 G1 _ _ hr2 ht2 hm2, fun z => z.elim⟩
theorem case_foresee (hC : KC X mL_law 8 false (some (L, xs)) 601024 7293034) (hCX : KCX X) (hE : KRet X mL_law E) (hL : L ≤ 2048) (hi : i + 4 ≤ L) (hr : kRep 0 D σ) (ht : mTop D σ) (hm : mSt 2 D σ) (hw : kWf0 b0 h0 0 h0 σ) (hG : tG σ ≤ 90) (hb : b0 ≤ 110000) (hcs : cs + 852 ≤ 601024) (hsl : sl + 6520 ≤ 7293034) (next : lNext X b0 i cs sl) : KW X 1155 [some (kR (some (13, 0, 0))), some (kR (some (5, 9, 0))), some (kR (some (7, 4, 0))), some (kR (some (12, 9, 0))), some (kI (nI i)), none, none, none, none] [] (km D G) cs sl := by
  have hs := hw.1
  have hbool := hw.2.2.2.2.2.2
  have hfresh : tC σ < 20 → tZ σ 1 (tC σ) = -1 ∧ tZ σ 4 (tC σ) = 0 := fun h => ⟨(hw.2.2.2.2.2.1.1 _ (Nat.le_refl _) h).1, (hw.2.2.2.2.2.1.1 _ (Nat.le_refl _) h).2.2.2⟩
  obtain ⟨bC, bL, bG, -⟩ := hw.1.1
  have hx5 := kx_live
  have h7 := mLive7
  have hx12 := kx12_live
  have e1 : nI i + 1 = nI (i + 1) := nI_add i 1
  have e2 : nI i + 2 = nI (i + 2) := nI_add i 2
  have e3 : nI i + 3 = nI (i + 3) := nI_add i 3
  have c1 := nI_clamp (show i + 1 < 2 ^ 31 by omega)
  have c2 := nI_clamp (show i + 2 < 2 ^ 31 by omega)
  have c3 := nI_clamp (show i + 3 < 2 ^ 31 by omega)
  have v1 : vp_in (nI (i + 1)) L := vp_in_nI (show i + 1 < L by omega) (by omega)
  have v2 : vp_in (nI (i + 2)) L := vp_in_nI (show i + 2 < L by omega) (by omega)
  have v3 : vp_in (nI (i + 3)) L := vp_in_nI (show i + 3 < L by omega) (by omega)
  have hwf := w_foresee hw hG (b2 := b0 + 200) (Nat.le_refl _) (xs (i + 1)) (xs (i + 2))
  generalize hrr : (rForesee σ (xs (i + 1)) (xs (i + 2))) = r at hwf
  have fin : ∀ (D2 : KI → Nat → Int32) (G2 : KI → Nat → Int64) (a b : Int32), kRep 0 D2 r.2.2 → mTop D2 r.2.2 → mSt 2 D2 r.2.2 → KW X 1220 [some (kR (some (13, 0, 0))), some (kR (some (5, 9, 0))), some (kR (some (7, 4, 0))), some (kR (some (12, 9, 0))), some (kI (nI i)), some (kI a), some (kI b), none, none] [] (km D2 G2) (cs + 2 + 0 + 0) (sl + 12 + 0 + 0) := by
    intro D2 G2 a b q1 q2 q3
    refine kwL_law_1220 hC hE ?_
    simp only [kbL_law_1220, mL_law, kblk, kstp, kent, kpad, kget, kst1, kst2, kc2, cond_false, cond_true, kfv, kfit, kOkf, kputv, kputD, kputG, kcpy, kcat, kRR, kNN, true_and, and_true, if_true, if_false, if_pos, Nat.reduceAdd, Nat.reduceEqDiff, Nat.reduceLeDiff, Nat.reduceLT, reduceIte, Prod.mk.injEq, eq_self, false_and, and_false, reduceCtorEq, Nat.reduceSub, List.reverse_cons, List.reverse_nil, List.nil_append, List.cons_append, Option.toList_some, Option.toList_none, not_true_eq_false, not_false_eq_true]
    exact KW.widen (by omega) (by omega) (KW.le (by simp [kLE]) (next D2 G2 r.2.2 q1 q2 q3 hwf))
  refine kwL_law_1155 hC hE ?_
  simp only [kbL_law_1155, mL_law, kblk, kstp, kent, kpad, kget, kst1, kst2, kc2, cond_false, cond_true, kfv, kfit, kOkf, kputv, kputD, kputG, kcpy, kcat, kRR, kNN, true_and, and_true, if_true, if_false, if_pos, Nat.reduceAdd, Nat.reduceEqDiff, Nat.reduceLeDiff, Nat.reduceLT, reduceIte, Prod.mk.injEq, eq_self, false_and, and_false, reduceCtorEq, Nat.reduceSub, List.reverse_cons, List.reverse_nil, List.nil_append, List.cons_append, Option.toList_some, Option.toList_none, not_true_eq_false, not_false_eq_true, e1, e2, e3, c1, c2, c3, nI_1]
  refine ⟨v1, v2, ?_⟩
  refine KW_callSW hC hCX (by decide +kernel) kl8_142 kcwL_foresee (by decide) ((l_foresee hr hw hG (xs (i + 1)) (xs (i + 2)))) rfl rfl (by simp [kOkL, kOk, hx5, h7, hx12]) (by simp [kOkS, kOk, hx5, h7, hx12]) (Nat.le_of_ble_eq_true rfl) (by omega) (by omega) ?_
  rintro v M' ⟨rfl, D1, G1, rfl, hr1, ho1, hout⟩
  have ht1 := top_agree ht ho1
  have hm1 := st_agree hm ho1
  rw [hrr] at hr1 hout ⊢
  refine kwL_law_1172 hC hE ?_
  simp only [kbL_law_1172, mL_law, kblk, kstp, kent, kpad, kget, kst1, kst2, kc2, cond_false, cond_true, kfv, kfit, kOkf, kputv, kputD, kputG, kcpy, kcat, kRR, kNN, true_and, and_true, if_true, if_false, if_pos, Nat.reduceAdd, Nat.reduceEqDiff, Nat.reduceLeDiff, Nat.reduceLT, reduceIte, Prod.mk.injEq, eq_self, false_and, and_false, reduceCtorEq, Nat.reduceSub, List.reverse_cons, List.reverse_nil, List.nil_append, List.cons_append, Option.toList_some, Option.toList_none, not_true_eq_false, not_false_eq_true, e1, e2, e3, c1, c2, c3, nI_1]
  refine ⟨v1, v2, ?_⟩
  refine KW_callV hC (by decide +kernel) kl8_144 (by decide) ((m7_foresee ht1 hm1 hw (by omega) (xs (i + 1)) (xs (i + 2)))) rfl rfl (Nat.le_of_ble_eq_true rfl) rfl h7 (by simp [kOkL, kOk, hx5, h7, hx12]) (by simp [kOkS, kOk, hx5, h7, hx12]) (Nat.le_of_ble_eq_true rfl) (by omega) (by omega) ?_
  rintro v M' hq
  obtain ⟨⟨y, rfl, hy⟩, D2, rfl, hthr, ht2, hm2, ho2⟩ := n_foresee hs hq
  rw [hrr] at hy hthr ht2 hm2
  have hr2 : kRep 0 D2 r.2.2 := rep_agree hr1 (fun j hj => ho2 j (Or.inl (by omega)))
  refine kwL_law_1190 hC hE ?_
  simp only [kbL_law_1190, mL_law, kblk, kstp, kent, kpad, kget, kst1, kst2, kc2, cond_false, cond_true, kfv, kfit, kOkf, kputv, kputD, kputG, kcpy, kcat, kRR, kNN, true_and, and_true, if_true, if_false, if_pos, Nat.reduceAdd, Nat.reduceEqDiff, Nat.reduceLeDiff, Nat.reduceLT, reduceIte, Prod.mk.injEq, eq_self, false_and, and_false, reduceCtorEq, Nat.reduceSub, List.reverse_cons, List.reverse_nil, List.nil_append, List.cons_append, Option.toList_some, Option.toList_none, not_true_eq_false, not_false_eq_true]
  refine KW_callV hC (by decide +kernel) kl8_90 (by decide) ((m7_thrown)) rfl rfl (Nat.le_of_ble_eq_true rfl) rfl h7 (by simp [kOkL, kOk, hx5, h7, hx12]) (by simp [kOkS, kOk, hx5, h7, hx12]) (Nat.le_of_ble_eq_true rfl) (by omega) (by omega) ?_
  rintro v M' ⟨rfl, rfl⟩
  rw [hthr]
  refine kwL_law_1196 hC hE ?_
  simp only [kbL_law_1196, mL_law, kblk, kstp, kent, kpad, kget, kst1, kst2, kc2, cond_false, cond_true, kfv, kfit, kOkf, kputv, kputD, kputG, kcpy, kcat, kRR, kNN, true_and, and_true, if_true, if_false, if_pos, Nat.reduceAdd, Nat.reduceEqDiff, Nat.reduceLeDiff, Nat.reduceLT, reduceIte, Prod.mk.injEq, eq_self, false_and, and_false, reduceCtorEq, Nat.reduceSub, List.reverse_cons, List.reverse_nil, List.nil_append, List.cons_append, Option.toList_some, Option.toList_none, not_true_eq_false, not_false_eq_true]
  refine ⟨fun _ => ?_, fun z => z.elim⟩
  refine kwL_law_1203 hC hE ?_
  simp only [kbL_law_1203, mL_law, kblk, kstp, kent, kpad, kget, kst1, kst2, kc2, cond_false, cond_true, kfv, kfit, kOkf, kputv, kputD, kputG, kcpy, kcat, kRR, kNN, true_and, and_true, if_true, if_false, if_pos, Nat.reduceAdd, Nat.reduceEqDiff, Nat.reduceLeDiff, Nat.reduceLT, reduceIte, Prod.mk.injEq, eq_self, false_and, and_false, reduceCtorEq, Nat.reduceSub, List.reverse_cons, List.reverse_nil, List.nil_append, List.cons_append, Option.toList_some, Option.toList_none, not_true_eq_false, not_false_eq_true]
  refine ⟨fun _ => fin D2 G1 _ _ hr2 ht2 hm2, fun z => ?_⟩
  have ho : G1 (12, 9, 0) 0 = y.toInt64 := by rw [hout z, hy z]
  refine kwL_law_1208 hC hE ?_
  simp only [kbL_law_1208, mL_law, kblk, kstp, kent, kpad, kget, kst1, kst2, kc2, cond_false, cond_true, kfv, kfit, kOkf, kputv, kputD, kputG, kcpy, kcat, kRR, kNN, true_and, and_true, if_true, if_false, if_pos, Nat.reduceAdd, Nat.reduceEqDiff, Nat.reduceLeDiff, Nat.reduceLT, reduceIte, Prod.mk.injEq, eq_self, false_and, and_false, reduceCtorEq, Nat.reduceSub, List.reverse_cons, List.reverse_nil, List.nil_append, List.cons_append, Option.toList_some, Option.toList_none, not_true_eq_false, not_false_eq_true, hx12, cl0, ho, lg_self]
  refine ⟨vp_in_nI (show 0 < 1 by decide) (by decide), fun _ => fin D2 G1 _ _ hr2 ht2 hm2, fun z => z.elim⟩
theorem case_when (hC : KC X mL_law 8 false (some (L, xs)) 601024 7293034) (hCX : KCX X) (hE : KRet X mL_law E) (hL : L ≤ 2048) (hi : i + 4 ≤ L) (hr : kRep 0 D σ) (ht : mTop D σ) (hm : mSt 2 D σ) (hw : kWf0 b0 h0 0 h0 σ) (hG : tG σ ≤ 90) (hb : b0 ≤ 110000) (hcs : cs + 852 ≤ 601024) (hsl : sl + 6520 ≤ 7293034) (next : lNext X b0 i cs sl) : KW X 1223 [some (kR (some (13, 0, 0))), some (kR (some (5, 9, 0))), some (kR (some (7, 4, 0))), some (kR (some (12, 9, 0))), some (kI (nI i)), none, none, none, none] [] (km D G) cs sl := by
  have hs := hw.1
  have hbool := hw.2.2.2.2.2.2
  have hfresh : tC σ < 20 → tZ σ 1 (tC σ) = -1 ∧ tZ σ 4 (tC σ) = 0 := fun h => ⟨(hw.2.2.2.2.2.1.1 _ (Nat.le_refl _) h).1, (hw.2.2.2.2.2.1.1 _ (Nat.le_refl _) h).2.2.2⟩
  obtain ⟨bC, bL, bG, -⟩ := hw.1.1
  have hx5 := kx_live
  have h7 := mLive7
  have hx12 := kx12_live
  have e1 : nI i + 1 = nI (i + 1) := nI_add i 1
  have e2 : nI i + 2 = nI (i + 2) := nI_add i 2
  have e3 : nI i + 3 = nI (i + 3) := nI_add i 3
  have c1 := nI_clamp (show i + 1 < 2 ^ 31 by omega)
  have c2 := nI_clamp (show i + 2 < 2 ^ 31 by omega)
  have c3 := nI_clamp (show i + 3 < 2 ^ 31 by omega)
  have v1 : vp_in (nI (i + 1)) L := vp_in_nI (show i + 1 < L by omega) (by omega)
  have v2 : vp_in (nI (i + 2)) L := vp_in_nI (show i + 2 < L by omega) (by omega)
  have v3 : vp_in (nI (i + 3)) L := vp_in_nI (show i + 3 < L by omega) (by omega)
  have hwf := w_when hw hG (b2 := b0 + 200) (Nat.le_refl _) (xs (i + 1))
  generalize hrr : (rWhen σ (xs (i + 1))) = r at hwf
  have fin : ∀ (D2 : KI → Nat → Int32) (G2 : KI → Nat → Int64) (a b : Int32), kRep 0 D2 r.2.2 → mTop D2 r.2.2 → mSt 2 D2 r.2.2 → KW X 1276 [some (kR (some (13, 0, 0))), some (kR (some (5, 9, 0))), some (kR (some (7, 4, 0))), some (kR (some (12, 9, 0))), some (kI (nI i)), some (kI a), some (kI b), none, none] [] (km D2 G2) (cs + 1 + 0 + 0) (sl + 6 + 0 + 0) := by
    intro D2 G2 a b q1 q2 q3
    refine kwL_law_1276 hC hE ?_
    simp only [kbL_law_1276, mL_law, kblk, kstp, kent, kpad, kget, kst1, kst2, kc2, cond_false, cond_true, kfv, kfit, kOkf, kputv, kputD, kputG, kcpy, kcat, kRR, kNN, true_and, and_true, if_true, if_false, if_pos, Nat.reduceAdd, Nat.reduceEqDiff, Nat.reduceLeDiff, Nat.reduceLT, reduceIte, Prod.mk.injEq, eq_self, false_and, and_false, reduceCtorEq, Nat.reduceSub, List.reverse_cons, List.reverse_nil, List.nil_append, List.cons_append, Option.toList_some, Option.toList_none, not_true_eq_false, not_false_eq_true]
    exact KW.widen (by omega) (by omega) (KW.le (by simp [kLE]) (next D2 G2 r.2.2 q1 q2 q3 hwf))
  refine kwL_law_1223 hC hE ?_
  simp only [kbL_law_1223, mL_law, kblk, kstp, kent, kpad, kget, kst1, kst2, kc2, cond_false, cond_true, kfv, kfit, kOkf, kputv, kputD, kputG, kcpy, kcat, kRR, kNN, true_and, and_true, if_true, if_false, if_pos, Nat.reduceAdd, Nat.reduceEqDiff, Nat.reduceLeDiff, Nat.reduceLT, reduceIte, Prod.mk.injEq, eq_self, false_and, and_false, reduceCtorEq, Nat.reduceSub, List.reverse_cons, List.reverse_nil, List.nil_append, List.cons_append, Option.toList_some, Option.toList_none, not_true_eq_false, not_false_eq_true, e1, e2, e3, c1, c2, c3, nI_1]
  refine ⟨v1, ?_⟩
  refine KW_callSW hC hCX (by decide +kernel) kl8_145 kcwL_when (by decide) ((l_when hr hw hG (xs (i + 1)))) rfl rfl (by simp [kOkL, kOk, hx5, h7, hx12]) (by simp [kOkS, kOk, hx5, h7, hx12]) (Nat.le_of_ble_eq_true rfl) (by omega) (by omega) ?_
  rintro v M' ⟨rfl, D1, G1, rfl, hr1, ho1, hout⟩
  have ht1 := top_agree ht ho1
  have hm1 := st_agree hm ho1
  rw [hrr] at hr1 hout ⊢
  refine kwL_law_1234 hC hE ?_
  simp only [kbL_law_1234, mL_law, kblk, kstp, kent, kpad, kget, kst1, kst2, kc2, cond_false, cond_true, kfv, kfit, kOkf, kputv, kputD, kputG, kcpy, kcat, kRR, kNN, true_and, and_true, if_true, if_false, if_pos, Nat.reduceAdd, Nat.reduceEqDiff, Nat.reduceLeDiff, Nat.reduceLT, reduceIte, Prod.mk.injEq, eq_self, false_and, and_false, reduceCtorEq, Nat.reduceSub, List.reverse_cons, List.reverse_nil, List.nil_append, List.cons_append, Option.toList_some, Option.toList_none, not_true_eq_false, not_false_eq_true, e1, e2, e3, c1, c2, c3, nI_1]
  refine ⟨v1, ?_⟩
  refine KW_callV hC (by decide +kernel) kl8_147 (by decide) ((m7_when ht1 hm1 hw (by omega) (xs (i + 1)))) rfl rfl (Nat.le_of_ble_eq_true rfl) rfl h7 (by simp [kOkL, kOk, hx5, h7, hx12]) (by simp [kOkS, kOk, hx5, h7, hx12]) (Nat.le_of_ble_eq_true rfl) (by omega) (by omega) ?_
  rintro v M' hq
  obtain ⟨⟨y, rfl, hy⟩, D2, rfl, hthr, ht2, hm2, ho2⟩ := n_when hs hq
  rw [hrr] at hy hthr ht2 hm2
  have hr2 : kRep 0 D2 r.2.2 := rep_agree hr1 (fun j hj => ho2 j (Or.inl (by omega)))
  refine kwL_law_1246 hC hE ?_
  simp only [kbL_law_1246, mL_law, kblk, kstp, kent, kpad, kget, kst1, kst2, kc2, cond_false, cond_true, kfv, kfit, kOkf, kputv, kputD, kputG, kcpy, kcat, kRR, kNN, true_and, and_true, if_true, if_false, if_pos, Nat.reduceAdd, Nat.reduceEqDiff, Nat.reduceLeDiff, Nat.reduceLT, reduceIte, Prod.mk.injEq, eq_self, false_and, and_false, reduceCtorEq, Nat.reduceSub, List.reverse_cons, List.reverse_nil, List.nil_append, List.cons_append, Option.toList_some, Option.toList_none, not_true_eq_false, not_false_eq_true]
  refine KW_callV hC (by decide +kernel) kl8_90 (by decide) ((m7_thrown)) rfl rfl (Nat.le_of_ble_eq_true rfl) rfl h7 (by simp [kOkL, kOk, hx5, h7, hx12]) (by simp [kOkS, kOk, hx5, h7, hx12]) (Nat.le_of_ble_eq_true rfl) (by omega) (by omega) ?_
  rintro v M' ⟨rfl, rfl⟩
  rw [hthr]
  refine kwL_law_1252 hC hE ?_
  simp only [kbL_law_1252, mL_law, kblk, kstp, kent, kpad, kget, kst1, kst2, kc2, cond_false, cond_true, kfv, kfit, kOkf, kputv, kputD, kputG, kcpy, kcat, kRR, kNN, true_and, and_true, if_true, if_false, if_pos, Nat.reduceAdd, Nat.reduceEqDiff, Nat.reduceLeDiff, Nat.reduceLT, reduceIte, Prod.mk.injEq, eq_self, false_and, and_false, reduceCtorEq, Nat.reduceSub, List.reverse_cons, List.reverse_nil, List.nil_append, List.cons_append, Option.toList_some, Option.toList_none, not_true_eq_false, not_false_eq_true]
  refine ⟨fun _ => ?_, fun z => z.elim⟩
  refine kwL_law_1259 hC hE ?_
  simp only [kbL_law_1259, mL_law, kblk, kstp, kent, kpad, kget, kst1, kst2, kc2, cond_false, cond_true, kfv, kfit, kOkf, kputv, kputD, kputG, kcpy, kcat, kRR, kNN, true_and, and_true, if_true, if_false, if_pos, Nat.reduceAdd, Nat.reduceEqDiff, Nat.reduceLeDiff, Nat.reduceLT, reduceIte, Prod.mk.injEq, eq_self, false_and, and_false, reduceCtorEq, Nat.reduceSub, List.reverse_cons, List.reverse_nil, List.nil_append, List.cons_append, Option.toList_some, Option.toList_none, not_true_eq_false, not_false_eq_true]
  refine ⟨fun _ => fin D2 G1 _ _ hr2 ht2 hm2, fun z => ?_⟩
  have ho : G1 (12, 9, 0) 0 = y.toInt64 := by rw [hout z, hy z]
  refine kwL_law_1264 hC hE ?_
  simp only [kbL_law_1264, mL_law, kblk, kstp, kent, kpad, kget, kst1, kst2, kc2, cond_false, cond_true, kfv, kfit, kOkf, kputv, kputD, kputG, kcpy, kcat, kRR, kNN, true_and, and_true, if_true, if_false, if_pos, Nat.reduceAdd, Nat.reduceEqDiff, Nat.reduceLeDiff, Nat.reduceLT, reduceIte, Prod.mk.injEq, eq_self, false_and, and_false, reduceCtorEq, Nat.reduceSub, List.reverse_cons, List.reverse_nil, List.nil_append, List.cons_append, Option.toList_some, Option.toList_none, not_true_eq_false, not_false_eq_true, hx12, cl0, ho, lg_self]
  refine ⟨vp_in_nI (show 0 < 1 by decide) (by decide), fun _ => fin D2 G1 _ _ hr2 ht2 hm2, fun z => z.elim⟩
theorem case_advise (hC : KC X mL_law 8 false (some (L, xs)) 601024 7293034) (hCX : KCX X) (hE : KRet X mL_law E) (hL : L ≤ 2048) (hi : i + 4 ≤ L) (hr : kRep 0 D σ) (ht : mTop D σ) (hm : mSt 2 D σ) (hw : kWf0 b0 h0 0 h0 σ) (hG : tG σ ≤ 90) (hb : b0 ≤ 110000) (hcs : cs + 852 ≤ 601024) (hsl : sl + 6520 ≤ 7293034) (next : lNext X b0 i cs sl) : KW X 1279 [some (kR (some (13, 0, 0))), some (kR (some (5, 9, 0))), some (kR (some (7, 4, 0))), some (kR (some (12, 9, 0))), some (kI (nI i)), none, none, none, none] [] (km D G) cs sl := by
  have hs := hw.1
  have hbool := hw.2.2.2.2.2.2
  have hfresh : tC σ < 20 → tZ σ 1 (tC σ) = -1 ∧ tZ σ 4 (tC σ) = 0 := fun h => ⟨(hw.2.2.2.2.2.1.1 _ (Nat.le_refl _) h).1, (hw.2.2.2.2.2.1.1 _ (Nat.le_refl _) h).2.2.2⟩
  obtain ⟨bC, bL, bG, -⟩ := hw.1.1
  have hx5 := kx_live
  have h7 := mLive7
  have hx12 := kx12_live
  have e1 : nI i + 1 = nI (i + 1) := nI_add i 1
  have e2 : nI i + 2 = nI (i + 2) := nI_add i 2
  have e3 : nI i + 3 = nI (i + 3) := nI_add i 3
  have c1 := nI_clamp (show i + 1 < 2 ^ 31 by omega)
  have c2 := nI_clamp (show i + 2 < 2 ^ 31 by omega)
  have c3 := nI_clamp (show i + 3 < 2 ^ 31 by omega)
  have v1 : vp_in (nI (i + 1)) L := vp_in_nI (show i + 1 < L by omega) (by omega)
  have v2 : vp_in (nI (i + 2)) L := vp_in_nI (show i + 2 < L by omega) (by omega)
  have v3 : vp_in (nI (i + 3)) L := vp_in_nI (show i + 3 < L by omega) (by omega)
  have hwf := w_advise hw hG (b2 := b0 + 200) (Nat.le_refl _) (xs (i + 1))
  generalize hrr : (rAdvise σ (xs (i + 1))) = r at hwf
  have fin : ∀ (D2 : KI → Nat → Int32) (G2 : KI → Nat → Int64) (a b : Int32), kRep 0 D2 r.2.2 → mTop D2 r.2.2 → mSt 2 D2 r.2.2 → KW X 1332 [some (kR (some (13, 0, 0))), some (kR (some (5, 9, 0))), some (kR (some (7, 4, 0))), some (kR (some (12, 9, 0))), some (kI (nI i)), some (kI a), some (kI b), none, none] [] (km D2 G2) (cs + 1 + 0 + 0) (sl + 6 + 0 + 0) := by
    intro D2 G2 a b q1 q2 q3
    refine kwL_law_1332 hC hE ?_
    simp only [kbL_law_1332, mL_law, kblk, kstp, kent, kpad, kget, kst1, kst2, kc2, cond_false, cond_true, kfv, kfit, kOkf, kputv, kputD, kputG, kcpy, kcat, kRR, kNN, true_and, and_true, if_true, if_false, if_pos, Nat.reduceAdd, Nat.reduceEqDiff, Nat.reduceLeDiff, Nat.reduceLT, reduceIte, Prod.mk.injEq, eq_self, false_and, and_false, reduceCtorEq, Nat.reduceSub, List.reverse_cons, List.reverse_nil, List.nil_append, List.cons_append, Option.toList_some, Option.toList_none, not_true_eq_false, not_false_eq_true]
    exact KW.widen (by omega) (by omega) (KW.le (by simp [kLE]) (next D2 G2 r.2.2 q1 q2 q3 hwf))
  refine kwL_law_1279 hC hE ?_
  simp only [kbL_law_1279, mL_law, kblk, kstp, kent, kpad, kget, kst1, kst2, kc2, cond_false, cond_true, kfv, kfit, kOkf, kputv, kputD, kputG, kcpy, kcat, kRR, kNN, true_and, and_true, if_true, if_false, if_pos, Nat.reduceAdd, Nat.reduceEqDiff, Nat.reduceLeDiff, Nat.reduceLT, reduceIte, Prod.mk.injEq, eq_self, false_and, and_false, reduceCtorEq, Nat.reduceSub, List.reverse_cons, List.reverse_nil, List.nil_append, List.cons_append, Option.toList_some, Option.toList_none, not_true_eq_false, not_false_eq_true, e1, e2, e3, c1, c2, c3, nI_1]
  refine ⟨v1, ?_⟩
  refine KW_callSW hC hCX (by decide +kernel) kl8_148 kcwL_advise (by decide) ((l_advise hr hw hG (xs (i + 1)))) rfl rfl (by simp [kOkL, kOk, hx5, h7, hx12]) (by simp [kOkS, kOk, hx5, h7, hx12]) (Nat.le_of_ble_eq_true rfl) (by omega) (by omega) ?_
  rintro v M' ⟨rfl, D1, G1, rfl, hr1, ho1, hout⟩
  have ht1 := top_agree ht ho1
  have hm1 := st_agree hm ho1
  rw [hrr] at hr1 hout ⊢
  refine kwL_law_1290 hC hE ?_
  simp only [kbL_law_1290, mL_law, kblk, kstp, kent, kpad, kget, kst1, kst2, kc2, cond_false, cond_true, kfv, kfit, kOkf, kputv, kputD, kputG, kcpy, kcat, kRR, kNN, true_and, and_true, if_true, if_false, if_pos, Nat.reduceAdd, Nat.reduceEqDiff, Nat.reduceLeDiff, Nat.reduceLT, reduceIte, Prod.mk.injEq, eq_self, false_and, and_false, reduceCtorEq, Nat.reduceSub, List.reverse_cons, List.reverse_nil, List.nil_append, List.cons_append, Option.toList_some, Option.toList_none, not_true_eq_false, not_false_eq_true, e1, e2, e3, c1, c2, c3, nI_1]
  refine ⟨v1, ?_⟩
  refine KW_callV hC (by decide +kernel) kl8_150 (by decide) ((m7_advise ht1 hm1 hw hG (by omega) (xs (i + 1)))) rfl rfl (Nat.le_of_ble_eq_true rfl) rfl h7 (by simp [kOkL, kOk, hx5, h7, hx12]) (by simp [kOkS, kOk, hx5, h7, hx12]) (Nat.le_of_ble_eq_true rfl) (by omega) (by omega) ?_
  rintro v M' hq
  obtain ⟨⟨y, rfl, hy⟩, D2, rfl, hthr, ht2, hm2, ho2⟩ := n_advise hs hq
  rw [hrr] at hy hthr ht2 hm2
  have hr2 : kRep 0 D2 r.2.2 := rep_agree hr1 (fun j hj => ho2 j (Or.inl (by omega)))
  refine kwL_law_1302 hC hE ?_
  simp only [kbL_law_1302, mL_law, kblk, kstp, kent, kpad, kget, kst1, kst2, kc2, cond_false, cond_true, kfv, kfit, kOkf, kputv, kputD, kputG, kcpy, kcat, kRR, kNN, true_and, and_true, if_true, if_false, if_pos, Nat.reduceAdd, Nat.reduceEqDiff, Nat.reduceLeDiff, Nat.reduceLT, reduceIte, Prod.mk.injEq, eq_self, false_and, and_false, reduceCtorEq, Nat.reduceSub, List.reverse_cons, List.reverse_nil, List.nil_append, List.cons_append, Option.toList_some, Option.toList_none, not_true_eq_false, not_false_eq_true]
  refine KW_callV hC (by decide +kernel) kl8_90 (by decide) ((m7_thrown)) rfl rfl (Nat.le_of_ble_eq_true rfl) rfl h7 (by simp [kOkL, kOk, hx5, h7, hx12]) (by simp [kOkS, kOk, hx5, h7, hx12]) (Nat.le_of_ble_eq_true rfl) (by omega) (by omega) ?_
  rintro v M' ⟨rfl, rfl⟩
  rw [hthr]
  refine kwL_law_1308 hC hE ?_
  simp only [kbL_law_1308, mL_law, kblk, kstp, kent, kpad, kget, kst1, kst2, kc2, cond_false, cond_true, kfv, kfit, kOkf, kputv, kputD, kputG, kcpy, kcat, kRR, kNN, true_and, and_true, if_true, if_false, if_pos, Nat.reduceAdd, Nat.reduceEqDiff, Nat.reduceLeDiff, Nat.reduceLT, reduceIte, Prod.mk.injEq, eq_self, false_and, and_false, reduceCtorEq, Nat.reduceSub, List.reverse_cons, List.reverse_nil, List.nil_append, List.cons_append, Option.toList_some, Option.toList_none, not_true_eq_false, not_false_eq_true]
  refine ⟨fun _ => ?_, fun z => z.elim⟩
  refine kwL_law_1315 hC hE ?_
  simp only [kbL_law_1315, mL_law, kblk, kstp, kent, kpad, kget, kst1, kst2, kc2, cond_false, cond_true, kfv, kfit, kOkf, kputv, kputD, kputG, kcpy, kcat, kRR, kNN, true_and, and_true, if_true, if_false, if_pos, Nat.reduceAdd, Nat.reduceEqDiff, Nat.reduceLeDiff, Nat.reduceLT, reduceIte, Prod.mk.injEq, eq_self, false_and, and_false, reduceCtorEq, Nat.reduceSub, List.reverse_cons, List.reverse_nil, List.nil_append, List.cons_append, Option.toList_some, Option.toList_none, not_true_eq_false, not_false_eq_true]
  refine ⟨fun _ => fin D2 G1 _ _ hr2 ht2 hm2, fun z => ?_⟩
  have ho : G1 (12, 9, 0) 0 = y.toInt64 := by rw [hout z, hy z]
  refine kwL_law_1320 hC hE ?_
  simp only [kbL_law_1320, mL_law, kblk, kstp, kent, kpad, kget, kst1, kst2, kc2, cond_false, cond_true, kfv, kfit, kOkf, kputv, kputD, kputG, kcpy, kcat, kRR, kNN, true_and, and_true, if_true, if_false, if_pos, Nat.reduceAdd, Nat.reduceEqDiff, Nat.reduceLeDiff, Nat.reduceLT, reduceIte, Prod.mk.injEq, eq_self, false_and, and_false, reduceCtorEq, Nat.reduceSub, List.reverse_cons, List.reverse_nil, List.nil_append, List.cons_append, Option.toList_some, Option.toList_none, not_true_eq_false, not_false_eq_true, hx12, cl0, ho, lg_self]
  refine ⟨vp_in_nI (show 0 < 1 by decide) (by decide), fun _ => fin D2 G1 _ _ hr2 ht2 hm2, fun z => z.elim⟩
theorem case_needs (hC : KC X mL_law 8 false (some (L, xs)) 601024 7293034) (hCX : KCX X) (hE : KRet X mL_law E) (hL : L ≤ 2048) (hi : i + 4 ≤ L) (hr : kRep 0 D σ) (ht : mTop D σ) (hm : mSt 2 D σ) (hw : kWf0 b0 h0 0 h0 σ) (hG : tG σ ≤ 90) (hb : b0 ≤ 110000) (hcs : cs + 852 ≤ 601024) (hsl : sl + 6520 ≤ 7293034) (next : lNext X b0 i cs sl) : KW X 1335 [some (kR (some (13, 0, 0))), some (kR (some (5, 9, 0))), some (kR (some (7, 4, 0))), some (kR (some (12, 9, 0))), some (kI (nI i)), none, none, none, none] [] (km D G) cs sl := by
  have hs := hw.1
  have hbool := hw.2.2.2.2.2.2
  have hfresh : tC σ < 20 → tZ σ 1 (tC σ) = -1 ∧ tZ σ 4 (tC σ) = 0 := fun h => ⟨(hw.2.2.2.2.2.1.1 _ (Nat.le_refl _) h).1, (hw.2.2.2.2.2.1.1 _ (Nat.le_refl _) h).2.2.2⟩
  obtain ⟨bC, bL, bG, -⟩ := hw.1.1
  have hx5 := kx_live
  have h7 := mLive7
  have hx12 := kx12_live
  have e1 : nI i + 1 = nI (i + 1) := nI_add i 1
  have e2 : nI i + 2 = nI (i + 2) := nI_add i 2
  have e3 : nI i + 3 = nI (i + 3) := nI_add i 3
  have c1 := nI_clamp (show i + 1 < 2 ^ 31 by omega)
  have c2 := nI_clamp (show i + 2 < 2 ^ 31 by omega)
  have c3 := nI_clamp (show i + 3 < 2 ^ 31 by omega)
  have v1 : vp_in (nI (i + 1)) L := vp_in_nI (show i + 1 < L by omega) (by omega)
  have v2 : vp_in (nI (i + 2)) L := vp_in_nI (show i + 2 < L by omega) (by omega)
  have v3 : vp_in (nI (i + 3)) L := vp_in_nI (show i + 3 < L by omega) (by omega)
  have hwf := w_needs hw hG (b2 := b0 + 200) (Nat.le_refl _) (xs (i + 1)) (xs (i + 2))
  generalize hrr : (rNeeds σ (xs (i + 1)) (xs (i + 2))) = r at hwf
  have fin : ∀ (D2 : KI → Nat → Int32) (G2 : KI → Nat → Int64) (a b : Int32), kRep 0 D2 r.2.2 → mTop D2 r.2.2 → mSt 2 D2 r.2.2 → KW X 1400 [some (kR (some (13, 0, 0))), some (kR (some (5, 9, 0))), some (kR (some (7, 4, 0))), some (kR (some (12, 9, 0))), some (kI (nI i)), some (kI a), some (kI b), none, none] [] (km D2 G2) (cs + 1 + 0 + 0) (sl + 6 + 0 + 0) := by
    intro D2 G2 a b q1 q2 q3
    refine kwL_law_1400 hC hE ?_
    simp only [kbL_law_1400, mL_law, kblk, kstp, kent, kpad, kget, kst1, kst2, kc2, cond_false, cond_true, kfv, kfit, kOkf, kputv, kputD, kputG, kcpy, kcat, kRR, kNN, true_and, and_true, if_true, if_false, if_pos, Nat.reduceAdd, Nat.reduceEqDiff, Nat.reduceLeDiff, Nat.reduceLT, reduceIte, Prod.mk.injEq, eq_self, false_and, and_false, reduceCtorEq, Nat.reduceSub, List.reverse_cons, List.reverse_nil, List.nil_append, List.cons_append, Option.toList_some, Option.toList_none, not_true_eq_false, not_false_eq_true]
    exact KW.widen (by omega) (by omega) (KW.le (by simp [kLE]) (next D2 G2 r.2.2 q1 q2 q3 hwf))
  refine kwL_law_1335 hC hE ?_
  simp only [kbL_law_1335, mL_law, kblk, kstp, kent, kpad, kget, kst1, kst2, kc2, cond_false, cond_true, kfv, kfit, kOkf, kputv, kputD, kputG, kcpy, kcat, kRR, kNN, true_and, and_true, if_true, if_false, if_pos, Nat.reduceAdd, Nat.reduceEqDiff, Nat.reduceLeDiff, Nat.reduceLT, reduceIte, Prod.mk.injEq, eq_self, false_and, and_false, reduceCtorEq, Nat.reduceSub, List.reverse_cons, List.reverse_nil, List.nil_append, List.cons_append, Option.toList_some, Option.toList_none, not_true_eq_false, not_false_eq_true, e1, e2, e3, c1, c2, c3, nI_1]
  refine ⟨v1, v2, ?_⟩
  refine KW_callSW hC hCX (by decide +kernel) kl8_151 kcwL_needs (by decide) ((l_needs hr hw hG (xs (i + 1)) (xs (i + 2)))) rfl rfl (by simp [kOkL, kOk, hx5, h7, hx12]) (by simp [kOkS, kOk, hx5, h7, hx12]) (Nat.le_of_ble_eq_true rfl) (by omega) (by omega) ?_
  rintro v M' ⟨rfl, D1, G1, rfl, hr1, ho1, hout⟩
  have ht1 := top_agree ht ho1
  have hm1 := st_agree hm ho1
  rw [hrr] at hr1 hout ⊢
  refine kwL_law_1352 hC hE ?_
  simp only [kbL_law_1352, mL_law, kblk, kstp, kent, kpad, kget, kst1, kst2, kc2, cond_false, cond_true, kfv, kfit, kOkf, kputv, kputD, kputG, kcpy, kcat, kRR, kNN, true_and, and_true, if_true, if_false, if_pos, Nat.reduceAdd, Nat.reduceEqDiff, Nat.reduceLeDiff, Nat.reduceLT, reduceIte, Prod.mk.injEq, eq_self, false_and, and_false, reduceCtorEq, Nat.reduceSub, List.reverse_cons, List.reverse_nil, List.nil_append, List.cons_append, Option.toList_some, Option.toList_none, not_true_eq_false, not_false_eq_true, e1, e2, e3, c1, c2, c3, nI_1]
  refine ⟨v1, v2, ?_⟩
  refine KW_callV hC (by decide +kernel) kl8_153 (by decide) ((m7_needs ht1 hm1 hw (by omega) (xs (i + 1)) (xs (i + 2)))) rfl rfl (Nat.le_of_ble_eq_true rfl) rfl h7 (by simp [kOkL, kOk, hx5, h7, hx12]) (by simp [kOkS, kOk, hx5, h7, hx12]) (Nat.le_of_ble_eq_true rfl) (by omega) (by omega) ?_
  rintro v M' hq
  obtain ⟨⟨y, rfl, hy⟩, D2, rfl, hthr, ht2, hm2, ho2⟩ := n_needs hs hq
  rw [hrr] at hy hthr ht2 hm2
  have hr2 : kRep 0 D2 r.2.2 := rep_agree hr1 (fun j hj => ho2 j (Or.inl (by omega)))
  refine kwL_law_1370 hC hE ?_
  simp only [kbL_law_1370, mL_law, kblk, kstp, kent, kpad, kget, kst1, kst2, kc2, cond_false, cond_true, kfv, kfit, kOkf, kputv, kputD, kputG, kcpy, kcat, kRR, kNN, true_and, and_true, if_true, if_false, if_pos, Nat.reduceAdd, Nat.reduceEqDiff, Nat.reduceLeDiff, Nat.reduceLT, reduceIte, Prod.mk.injEq, eq_self, false_and, and_false, reduceCtorEq, Nat.reduceSub, List.reverse_cons, List.reverse_nil, List.nil_append, List.cons_append, Option.toList_some, Option.toList_none, not_true_eq_false, not_false_eq_true]
  refine KW_callV hC (by decide +kernel) kl8_90 (by decide) ((m7_thrown)) rfl rfl (Nat.le_of_ble_eq_true rfl) rfl h7 (by simp [kOkL, kOk, hx5, h7, hx12]) (by simp [kOkS, kOk, hx5, h7, hx12]) (Nat.le_of_ble_eq_true rfl) (by omega) (by omega) ?_
  rintro v M' ⟨rfl, rfl⟩
  rw [hthr]
  refine kwL_law_1376 hC hE ?_
  simp only [kbL_law_1376, mL_law, kblk, kstp, kent, kpad, kget, kst1, kst2, kc2, cond_false, cond_true, kfv, kfit, kOkf, kputv, kputD, kputG, kcpy, kcat, kRR, kNN, true_and, and_true, if_true, if_false, if_pos, Nat.reduceAdd, Nat.reduceEqDiff, Nat.reduceLeDiff, Nat.reduceLT, reduceIte, Prod.mk.injEq, eq_self, false_and, and_false, reduceCtorEq, Nat.reduceSub, List.reverse_cons, List.reverse_nil, List.nil_append, List.cons_append, Option.toList_some, Option.toList_none, not_true_eq_false, not_false_eq_true]
  refine ⟨fun _ => ?_, fun z => z.elim⟩
  refine kwL_law_1383 hC hE ?_
  simp only [kbL_law_1383, mL_law, kblk, kstp, kent, kpad, kget, kst1, kst2, kc2, cond_false, cond_true, kfv, kfit, kOkf, kputv, kputD, kputG, kcpy, kcat, kRR, kNN, true_and, and_true, if_true, if_false, if_pos, Nat.reduceAdd, Nat.reduceEqDiff, Nat.reduceLeDiff, Nat.reduceLT, reduceIte, Prod.mk.injEq, eq_self, false_and, and_false, reduceCtorEq, Nat.reduceSub, List.reverse_cons, List.reverse_nil, List.nil_append, List.cons_append, Option.toList_some, Option.toList_none, not_true_eq_false, not_false_eq_true]
  refine ⟨fun _ => fin D2 G1 _ _ hr2 ht2 hm2, fun z => ?_⟩
  have ho : G1 (12, 9, 0) 0 = y.toInt64 := by rw [hout z, hy z]
  refine kwL_law_1388 hC hE ?_
  simp only [kbL_law_1388, mL_law, kblk, kstp, kent, kpad, kget, kst1, kst2, kc2, cond_false, cond_true, kfv, kfit, kOkf, kputv, kputD, kputG, kcpy, kcat, kRR, kNN, true_and, and_true, if_true, if_false, if_pos, Nat.reduceAdd, Nat.reduceEqDiff, Nat.reduceLeDiff, Nat.reduceLT, reduceIte, Prod.mk.injEq, eq_self, false_and, and_false, reduceCtorEq, Nat.reduceSub, List.reverse_cons, List.reverse_nil, List.nil_append, List.cons_append, Option.toList_some, Option.toList_none, not_true_eq_false, not_false_eq_true, hx12, cl0, ho, lg_self]
  refine ⟨vp_in_nI (show 0 < 1 by decide) (by decide), fun _ => fin D2 G1 _ _ hr2 ht2 hm2, fun z => z.elim⟩
end CASES

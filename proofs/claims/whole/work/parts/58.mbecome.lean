/-! The reference: a state becomes the other; a group joins. -/
section MBECOME
variable {D : KI → Nat → Int32} {G : KI → Nat → Int64} {P : Nat} {σ : KT}
/-- the scalars and the arrays below k are copied -/
def cInv (D : KI → Nat → Int32) (k : Nat) (D' : KI → Nat → Int32) : Prop := (∀ k', 9 ≤ k' → k' < k → ∀ j, j < kN8 2 k' → D' (8, 3, k') j = D (8, 2, k') j) ∧ (∀ j, j < 9 → D' (6, 3, 0) j = D (6, 2, 0) j) ∧ kOff 3 D' D
theorem cInv.next {k : Nat} {D1 D2 : KI → Nat → Int32} (h : cInv D k D1) (h1 : ∀ j, j < kN8 2 k → D2 (8, 3, k) j = D1 (8, 2, k) j) (h2 : ∀ a, a ≠ (8, 3, k) → D2 a = D1 a) : cInv D (k + 1) D2 := by
  obtain ⟨a, b, c⟩ := h
  refine ⟨fun k' h9 hk j hj => ?_, fun j hj => by rw [h2 _ (by simp)]; exact b j hj, fun i hi => ?_⟩
  · by_cases hkk : k' = k
    · subst hkk
      rw [h1 j hj, c _ (by simp)]
    · rw [h2 _ (by simp [hkk])]
      exact a k' h9 (by omega) j hj
  · rw [h2 _ (fun z => hi (by rw [z]))]
    exact c i hi
theorem cInv.done {D' : KI → Nat → Int32} (h : cInv D 22 D') (hm : mSt 2 D σ) (hs : kS σ) (hq : qOK σ) : mSt 3 D' σ := by
  obtain ⟨a, b, -⟩ := h
  obtain ⟨bC, bL, bG, -⟩ := hs.1
  have hlen := hs.slen
  have n : ∀ k j, 9 ≤ k → k < 22 → j < (if k < 12 then 20 else if k < 14 then 4 else if k = 14 then 364 else 91) → D' (8, 3, k) j = D (8, 2, k) j := fun k j h9 hk hj => a k h9 hk j (by rw [kN8_P (Or.inl rfl)]; exact hj)
  obtain ⟨⟨a0, a1, a2, a3, a4, a5, a6, a7, a8⟩, h9, h10, h11, h12, h13, h14, hg⟩ := hm
  refine ⟨⟨by rw [b 0 (by decide)]; exact a0, by rw [b 1 (by decide)]; exact a1, by rw [b 2 (by decide)]; exact a2, by rw [b 3 (by decide)]; exact a3, by rw [b 4 (by decide)]; exact a4, by rw [b 5 (by decide)]; exact a5, by rw [b 6 (by decide)]; exact a6, by rw [b 7 (by decide)]; exact a7, by rw [b 8 (by decide)]; exact a8⟩, fun j x hx => ?_, fun c hc => ?_, fun c hc => ?_, fun l hl => ?_, fun l hl => ?_, fun l hl j x hx => ?_, fun g hgg => ?_⟩
  · have := (List.getElem?_eq_some_iff.mp hx).1
    rw [n 9 j (by decide) (by decide) (by simp; omega)]; exact h9 j x hx
  · rw [n 10 c (by decide) (by decide) (by simp; omega)]; exact h10 c hc
  · rw [n 11 c (by decide) (by decide) (by simp; omega)]; exact h11 c hc
  · rw [n 12 l (by decide) (by decide) (by simp; omega)]; exact h12 l hl
  · rw [n 13 l (by decide) (by decide) (by simp; omega)]; exact h13 l hl
  · have h1 := (List.getElem?_eq_some_iff.mp hx).1
    have h2 := hq l hl
    rw [n 14 _ (by decide) (by decide) (by simp; omega)]; exact h14 l hl j x hx
  · have := hg g hgg
    simp only [mGr] at this ⊢
    rw [n 15 g (by decide) (by decide) (by simp; omega), n 16 g (by decide) (by decide) (by simp; omega), n 17 g (by decide) (by decide) (by simp; omega), n 18 g (by decide) (by decide) (by simp; omega), n 19 g (by decide) (by decide) (by simp; omega), n 20 g (by decide) (by decide) (by simp; omega), n 21 g (by decide) (by decide) (by simp; omega)]
    exact this
set_option maxRecDepth 8000 in
theorem m_become (hm : mSt 2 D σ) (hs : kS σ) (hq : qOK σ) : SpQ mX6_become 0 0 [kR (some (6, 3, 0)), kR (some (6, 2, 0))] (km D G) (fun v M' => v = none ∧ mTo 3 D G σ M') := by
  refine SpQ_of (own := 6) (ini := false) (by decide +kernel) rfl (by decide) (Nat.le_of_ble_eq_true rfl) ?_
  intro X hC hE hL0
  have hx2 := mLive (P := 2) (Or.inl rfl)
  have hx3 := mLive (P := 3) (Or.inr rfl)
  have c21 : ∀ D' : KI → Nat → Int32, cInv D 21 D' → KW X 225 [some (kR (some (6, 3, 0))), some (kR (some (6, 2, 0)))] [kR (some (8, 3, 21)), kR (some (8, 2, 21)), kR (some (6, 3, 0))] (km D' G) 0 0 := by
    intro D' hi
    have l2 := mLive8 (P := 2) (k := 21) (Or.inl rfl) (by decide) (by decide)
    have l3 := mLive8 (P := 3) (k := 21) (Or.inr rfl) (by decide) (by decide)
    refine KW_callV hC (by decide +kernel) kl6_89 (by decide) ((m_copy (k := 21) (by decide) (by decide))) rfl rfl (Nat.le_of_ble_eq_true rfl) rfl hx3 (by simp [kOkL, kOk, hx2, hx3, l2, l3]) (by simp [kOkS, kOk, l2, l3]) (Nat.le_of_ble_eq_true rfl) (Nat.le_of_ble_eq_true rfl) (Nat.le_of_ble_eq_true rfl) ?_
    rintro v M' ⟨rfl, D2, rfl, a1, a2⟩
    refine kwX6_become_228 hC hE ?_
    simp only [kbX6_become_228, mX6_become, kblk, kstp, kent, kpad, kget, kst1, kst2, kc2, cond_false, cond_true, kfv, kfit, kOkf, kputv, kputD, kputG, kcpy, kcat, kRR, kNN, true_and, and_true, if_true, if_false, if_pos, Nat.reduceAdd, Nat.reduceEqDiff, Nat.reduceLeDiff, Nat.reduceLT, reduceIte, Prod.mk.injEq, eq_self, false_and, and_false, reduceCtorEq, Nat.reduceSub, List.reverse_cons, List.reverse_nil, List.nil_append, List.cons_append, Option.toList_some, Option.toList_none, not_true_eq_false, not_false_eq_true]
    exact ⟨⟨rfl, D2, rfl, (hi.next a1 a2).done hm hs hq, (hi.next a1 a2).2.2⟩, trivial, Nat.le_refl _, Nat.le_refl _⟩
  have c20 : ∀ D' : KI → Nat → Int32, cInv D 20 D' → KW X 213 [some (kR (some (6, 3, 0))), some (kR (some (6, 2, 0)))] [kR (some (8, 3, 20)), kR (some (8, 2, 20)), kR (some (6, 3, 0))] (km D' G) 0 0 := by
    intro D' hi
    have l2 := mLive8 (P := 2) (k := 20) (Or.inl rfl) (by decide) (by decide)
    have l3 := mLive8 (P := 3) (k := 20) (Or.inr rfl) (by decide) (by decide)
    refine KW_callV hC (by decide +kernel) kl6_89 (by decide) ((m_copy (k := 20) (by decide) (by decide))) rfl rfl (Nat.le_of_ble_eq_true rfl) rfl hx3 (by simp [kOkL, kOk, hx2, hx3, l2, l3]) (by simp [kOkS, kOk, l2, l3]) (Nat.le_of_ble_eq_true rfl) (Nat.le_of_ble_eq_true rfl) (Nat.le_of_ble_eq_true rfl) ?_
    rintro v M' ⟨rfl, D2, rfl, a1, a2⟩
    refine kwX6_become_216 hC hE ?_
    simp only [kbX6_become_216, mX6_become, kblk, kstp, kent, kpad, kget, kst1, kst2, kc2, cond_false, cond_true, kfv, kfit, kOkf, kputv, kputD, kputG, kcpy, kcat, kRR, kNN, true_and, and_true, if_true, if_false, if_pos, Nat.reduceAdd, Nat.reduceEqDiff, Nat.reduceLeDiff, Nat.reduceLT, reduceIte, Prod.mk.injEq, eq_self, false_and, and_false, reduceCtorEq, Nat.reduceSub, List.reverse_cons, List.reverse_nil, List.nil_append, List.cons_append, Option.toList_some, Option.toList_none, not_true_eq_false, not_false_eq_true, hx2, hx3]
    exact c21 D2 (hi.next a1 a2)
  have c19 : ∀ D' : KI → Nat → Int32, cInv D 19 D' → KW X 201 [some (kR (some (6, 3, 0))), some (kR (some (6, 2, 0)))] [kR (some (8, 3, 19)), kR (some (8, 2, 19)), kR (some (6, 3, 0))] (km D' G) 0 0 := by
    intro D' hi
    have l2 := mLive8 (P := 2) (k := 19) (Or.inl rfl) (by decide) (by decide)
    have l3 := mLive8 (P := 3) (k := 19) (Or.inr rfl) (by decide) (by decide)
    refine KW_callV hC (by decide +kernel) kl6_89 (by decide) ((m_copy (k := 19) (by decide) (by decide))) rfl rfl (Nat.le_of_ble_eq_true rfl) rfl hx3 (by simp [kOkL, kOk, hx2, hx3, l2, l3]) (by simp [kOkS, kOk, l2, l3]) (Nat.le_of_ble_eq_true rfl) (Nat.le_of_ble_eq_true rfl) (Nat.le_of_ble_eq_true rfl) ?_
    rintro v M' ⟨rfl, D2, rfl, a1, a2⟩
    refine kwX6_become_204 hC hE ?_
    simp only [kbX6_become_204, mX6_become, kblk, kstp, kent, kpad, kget, kst1, kst2, kc2, cond_false, cond_true, kfv, kfit, kOkf, kputv, kputD, kputG, kcpy, kcat, kRR, kNN, true_and, and_true, if_true, if_false, if_pos, Nat.reduceAdd, Nat.reduceEqDiff, Nat.reduceLeDiff, Nat.reduceLT, reduceIte, Prod.mk.injEq, eq_self, false_and, and_false, reduceCtorEq, Nat.reduceSub, List.reverse_cons, List.reverse_nil, List.nil_append, List.cons_append, Option.toList_some, Option.toList_none, not_true_eq_false, not_false_eq_true, hx2, hx3]
    exact c20 D2 (hi.next a1 a2)
  have c18 : ∀ D' : KI → Nat → Int32, cInv D 18 D' → KW X 189 [some (kR (some (6, 3, 0))), some (kR (some (6, 2, 0)))] [kR (some (8, 3, 18)), kR (some (8, 2, 18)), kR (some (6, 3, 0))] (km D' G) 0 0 := by
    intro D' hi
    have l2 := mLive8 (P := 2) (k := 18) (Or.inl rfl) (by decide) (by decide)
    have l3 := mLive8 (P := 3) (k := 18) (Or.inr rfl) (by decide) (by decide)
    refine KW_callV hC (by decide +kernel) kl6_89 (by decide) ((m_copy (k := 18) (by decide) (by decide))) rfl rfl (Nat.le_of_ble_eq_true rfl) rfl hx3 (by simp [kOkL, kOk, hx2, hx3, l2, l3]) (by simp [kOkS, kOk, l2, l3]) (Nat.le_of_ble_eq_true rfl) (Nat.le_of_ble_eq_true rfl) (Nat.le_of_ble_eq_true rfl) ?_
    rintro v M' ⟨rfl, D2, rfl, a1, a2⟩
    refine kwX6_become_192 hC hE ?_
    simp only [kbX6_become_192, mX6_become, kblk, kstp, kent, kpad, kget, kst1, kst2, kc2, cond_false, cond_true, kfv, kfit, kOkf, kputv, kputD, kputG, kcpy, kcat, kRR, kNN, true_and, and_true, if_true, if_false, if_pos, Nat.reduceAdd, Nat.reduceEqDiff, Nat.reduceLeDiff, Nat.reduceLT, reduceIte, Prod.mk.injEq, eq_self, false_and, and_false, reduceCtorEq, Nat.reduceSub, List.reverse_cons, List.reverse_nil, List.nil_append, List.cons_append, Option.toList_some, Option.toList_none, not_true_eq_false, not_false_eq_true, hx2, hx3]
    exact c19 D2 (hi.next a1 a2)
  have c17 : ∀ D' : KI → Nat → Int32, cInv D 17 D' → KW X 177 [some (kR (some (6, 3, 0))), some (kR (some (6, 2, 0)))] [kR (some (8, 3, 17)), kR (some (8, 2, 17)), kR (some (6, 3, 0))] (km D' G) 0 0 := by
    intro D' hi
    have l2 := mLive8 (P := 2) (k := 17) (Or.inl rfl) (by decide) (by decide)
    have l3 := mLive8 (P := 3) (k := 17) (Or.inr rfl) (by decide) (by decide)
    refine KW_callV hC (by decide +kernel) kl6_89 (by decide) ((m_copy (k := 17) (by decide) (by decide))) rfl rfl (Nat.le_of_ble_eq_true rfl) rfl hx3 (by simp [kOkL, kOk, hx2, hx3, l2, l3]) (by simp [kOkS, kOk, l2, l3]) (Nat.le_of_ble_eq_true rfl) (Nat.le_of_ble_eq_true rfl) (Nat.le_of_ble_eq_true rfl) ?_
    rintro v M' ⟨rfl, D2, rfl, a1, a2⟩
    refine kwX6_become_180 hC hE ?_
    simp only [kbX6_become_180, mX6_become, kblk, kstp, kent, kpad, kget, kst1, kst2, kc2, cond_false, cond_true, kfv, kfit, kOkf, kputv, kputD, kputG, kcpy, kcat, kRR, kNN, true_and, and_true, if_true, if_false, if_pos, Nat.reduceAdd, Nat.reduceEqDiff, Nat.reduceLeDiff, Nat.reduceLT, reduceIte, Prod.mk.injEq, eq_self, false_and, and_false, reduceCtorEq, Nat.reduceSub, List.reverse_cons, List.reverse_nil, List.nil_append, List.cons_append, Option.toList_some, Option.toList_none, not_true_eq_false, not_false_eq_true, hx2, hx3]
    exact c18 D2 (hi.next a1 a2)
  have c16 : ∀ D' : KI → Nat → Int32, cInv D 16 D' → KW X 165 [some (kR (some (6, 3, 0))), some (kR (some (6, 2, 0)))] [kR (some (8, 3, 16)), kR (some (8, 2, 16)), kR (some (6, 3, 0))] (km D' G) 0 0 := by
    intro D' hi
    have l2 := mLive8 (P := 2) (k := 16) (Or.inl rfl) (by decide) (by decide)
    have l3 := mLive8 (P := 3) (k := 16) (Or.inr rfl) (by decide) (by decide)
    refine KW_callV hC (by decide +kernel) kl6_89 (by decide) ((m_copy (k := 16) (by decide) (by decide))) rfl rfl (Nat.le_of_ble_eq_true rfl) rfl hx3 (by simp [kOkL, kOk, hx2, hx3, l2, l3]) (by simp [kOkS, kOk, l2, l3]) (Nat.le_of_ble_eq_true rfl) (Nat.le_of_ble_eq_true rfl) (Nat.le_of_ble_eq_true rfl) ?_
    rintro v M' ⟨rfl, D2, rfl, a1, a2⟩
    refine kwX6_become_168 hC hE ?_
    simp only [kbX6_become_168, mX6_become, kblk, kstp, kent, kpad, kget, kst1, kst2, kc2, cond_false, cond_true, kfv, kfit, kOkf, kputv, kputD, kputG, kcpy, kcat, kRR, kNN, true_and, and_true, if_true, if_false, if_pos, Nat.reduceAdd, Nat.reduceEqDiff, Nat.reduceLeDiff, Nat.reduceLT, reduceIte, Prod.mk.injEq, eq_self, false_and, and_false, reduceCtorEq, Nat.reduceSub, List.reverse_cons, List.reverse_nil, List.nil_append, List.cons_append, Option.toList_some, Option.toList_none, not_true_eq_false, not_false_eq_true, hx2, hx3]
    exact c17 D2 (hi.next a1 a2)
  have c15 : ∀ D' : KI → Nat → Int32, cInv D 15 D' → KW X 153 [some (kR (some (6, 3, 0))), some (kR (some (6, 2, 0)))] [kR (some (8, 3, 15)), kR (some (8, 2, 15)), kR (some (6, 3, 0))] (km D' G) 0 0 := by
    intro D' hi
    have l2 := mLive8 (P := 2) (k := 15) (Or.inl rfl) (by decide) (by decide)
    have l3 := mLive8 (P := 3) (k := 15) (Or.inr rfl) (by decide) (by decide)
    refine KW_callV hC (by decide +kernel) kl6_89 (by decide) ((m_copy (k := 15) (by decide) (by decide))) rfl rfl (Nat.le_of_ble_eq_true rfl) rfl hx3 (by simp [kOkL, kOk, hx2, hx3, l2, l3]) (by simp [kOkS, kOk, l2, l3]) (Nat.le_of_ble_eq_true rfl) (Nat.le_of_ble_eq_true rfl) (Nat.le_of_ble_eq_true rfl) ?_
    rintro v M' ⟨rfl, D2, rfl, a1, a2⟩
    refine kwX6_become_156 hC hE ?_
    simp only [kbX6_become_156, mX6_become, kblk, kstp, kent, kpad, kget, kst1, kst2, kc2, cond_false, cond_true, kfv, kfit, kOkf, kputv, kputD, kputG, kcpy, kcat, kRR, kNN, true_and, and_true, if_true, if_false, if_pos, Nat.reduceAdd, Nat.reduceEqDiff, Nat.reduceLeDiff, Nat.reduceLT, reduceIte, Prod.mk.injEq, eq_self, false_and, and_false, reduceCtorEq, Nat.reduceSub, List.reverse_cons, List.reverse_nil, List.nil_append, List.cons_append, Option.toList_some, Option.toList_none, not_true_eq_false, not_false_eq_true, hx2, hx3]
    exact c16 D2 (hi.next a1 a2)
  have c14 : ∀ D' : KI → Nat → Int32, cInv D 14 D' → KW X 141 [some (kR (some (6, 3, 0))), some (kR (some (6, 2, 0)))] [kR (some (8, 3, 14)), kR (some (8, 2, 14)), kR (some (6, 3, 0))] (km D' G) 0 0 := by
    intro D' hi
    have l2 := mLive8 (P := 2) (k := 14) (Or.inl rfl) (by decide) (by decide)
    have l3 := mLive8 (P := 3) (k := 14) (Or.inr rfl) (by decide) (by decide)
    refine KW_callV hC (by decide +kernel) kl6_89 (by decide) ((m_copy (k := 14) (by decide) (by decide))) rfl rfl (Nat.le_of_ble_eq_true rfl) rfl hx3 (by simp [kOkL, kOk, hx2, hx3, l2, l3]) (by simp [kOkS, kOk, l2, l3]) (Nat.le_of_ble_eq_true rfl) (Nat.le_of_ble_eq_true rfl) (Nat.le_of_ble_eq_true rfl) ?_
    rintro v M' ⟨rfl, D2, rfl, a1, a2⟩
    refine kwX6_become_144 hC hE ?_
    simp only [kbX6_become_144, mX6_become, kblk, kstp, kent, kpad, kget, kst1, kst2, kc2, cond_false, cond_true, kfv, kfit, kOkf, kputv, kputD, kputG, kcpy, kcat, kRR, kNN, true_and, and_true, if_true, if_false, if_pos, Nat.reduceAdd, Nat.reduceEqDiff, Nat.reduceLeDiff, Nat.reduceLT, reduceIte, Prod.mk.injEq, eq_self, false_and, and_false, reduceCtorEq, Nat.reduceSub, List.reverse_cons, List.reverse_nil, List.nil_append, List.cons_append, Option.toList_some, Option.toList_none, not_true_eq_false, not_false_eq_true, hx2, hx3]
    exact c15 D2 (hi.next a1 a2)
  have c13 : ∀ D' : KI → Nat → Int32, cInv D 13 D' → KW X 129 [some (kR (some (6, 3, 0))), some (kR (some (6, 2, 0)))] [kR (some (8, 3, 13)), kR (some (8, 2, 13)), kR (some (6, 3, 0))] (km D' G) 0 0 := by
    intro D' hi
    have l2 := mLive8 (P := 2) (k := 13) (Or.inl rfl) (by decide) (by decide)
    have l3 := mLive8 (P := 3) (k := 13) (Or.inr rfl) (by decide) (by decide)
    refine KW_callV hC (by decide +kernel) kl6_89 (by decide) ((m_copy (k := 13) (by decide) (by decide))) rfl rfl (Nat.le_of_ble_eq_true rfl) rfl hx3 (by simp [kOkL, kOk, hx2, hx3, l2, l3]) (by simp [kOkS, kOk, l2, l3]) (Nat.le_of_ble_eq_true rfl) (Nat.le_of_ble_eq_true rfl) (Nat.le_of_ble_eq_true rfl) ?_
    rintro v M' ⟨rfl, D2, rfl, a1, a2⟩
    refine kwX6_become_132 hC hE ?_
    simp only [kbX6_become_132, mX6_become, kblk, kstp, kent, kpad, kget, kst1, kst2, kc2, cond_false, cond_true, kfv, kfit, kOkf, kputv, kputD, kputG, kcpy, kcat, kRR, kNN, true_and, and_true, if_true, if_false, if_pos, Nat.reduceAdd, Nat.reduceEqDiff, Nat.reduceLeDiff, Nat.reduceLT, reduceIte, Prod.mk.injEq, eq_self, false_and, and_false, reduceCtorEq, Nat.reduceSub, List.reverse_cons, List.reverse_nil, List.nil_append, List.cons_append, Option.toList_some, Option.toList_none, not_true_eq_false, not_false_eq_true, hx2, hx3]
    exact c14 D2 (hi.next a1 a2)
  have c12 : ∀ D' : KI → Nat → Int32, cInv D 12 D' → KW X 117 [some (kR (some (6, 3, 0))), some (kR (some (6, 2, 0)))] [kR (some (8, 3, 12)), kR (some (8, 2, 12)), kR (some (6, 3, 0))] (km D' G) 0 0 := by
    intro D' hi
    have l2 := mLive8 (P := 2) (k := 12) (Or.inl rfl) (by decide) (by decide)
    have l3 := mLive8 (P := 3) (k := 12) (Or.inr rfl) (by decide) (by decide)
    refine KW_callV hC (by decide +kernel) kl6_89 (by decide) ((m_copy (k := 12) (by decide) (by decide))) rfl rfl (Nat.le_of_ble_eq_true rfl) rfl hx3 (by simp [kOkL, kOk, hx2, hx3, l2, l3]) (by simp [kOkS, kOk, l2, l3]) (Nat.le_of_ble_eq_true rfl) (Nat.le_of_ble_eq_true rfl) (Nat.le_of_ble_eq_true rfl) ?_
    rintro v M' ⟨rfl, D2, rfl, a1, a2⟩
    refine kwX6_become_120 hC hE ?_
    simp only [kbX6_become_120, mX6_become, kblk, kstp, kent, kpad, kget, kst1, kst2, kc2, cond_false, cond_true, kfv, kfit, kOkf, kputv, kputD, kputG, kcpy, kcat, kRR, kNN, true_and, and_true, if_true, if_false, if_pos, Nat.reduceAdd, Nat.reduceEqDiff, Nat.reduceLeDiff, Nat.reduceLT, reduceIte, Prod.mk.injEq, eq_self, false_and, and_false, reduceCtorEq, Nat.reduceSub, List.reverse_cons, List.reverse_nil, List.nil_append, List.cons_append, Option.toList_some, Option.toList_none, not_true_eq_false, not_false_eq_true, hx2, hx3]
    exact c13 D2 (hi.next a1 a2)
  have c11 : ∀ D' : KI → Nat → Int32, cInv D 11 D' → KW X 105 [some (kR (some (6, 3, 0))), some (kR (some (6, 2, 0)))] [kR (some (8, 3, 11)), kR (some (8, 2, 11)), kR (some (6, 3, 0))] (km D' G) 0 0 := by
    intro D' hi
    have l2 := mLive8 (P := 2) (k := 11) (Or.inl rfl) (by decide) (by decide)
    have l3 := mLive8 (P := 3) (k := 11) (Or.inr rfl) (by decide) (by decide)
    refine KW_callV hC (by decide +kernel) kl6_89 (by decide) ((m_copy (k := 11) (by decide) (by decide))) rfl rfl (Nat.le_of_ble_eq_true rfl) rfl hx3 (by simp [kOkL, kOk, hx2, hx3, l2, l3]) (by simp [kOkS, kOk, l2, l3]) (Nat.le_of_ble_eq_true rfl) (Nat.le_of_ble_eq_true rfl) (Nat.le_of_ble_eq_true rfl) ?_
    rintro v M' ⟨rfl, D2, rfl, a1, a2⟩
    refine kwX6_become_108 hC hE ?_
    simp only [kbX6_become_108, mX6_become, kblk, kstp, kent, kpad, kget, kst1, kst2, kc2, cond_false, cond_true, kfv, kfit, kOkf, kputv, kputD, kputG, kcpy, kcat, kRR, kNN, true_and, and_true, if_true, if_false, if_pos, Nat.reduceAdd, Nat.reduceEqDiff, Nat.reduceLeDiff, Nat.reduceLT, reduceIte, Prod.mk.injEq, eq_self, false_and, and_false, reduceCtorEq, Nat.reduceSub, List.reverse_cons, List.reverse_nil, List.nil_append, List.cons_append, Option.toList_some, Option.toList_none, not_true_eq_false, not_false_eq_true, hx2, hx3]
    exact c12 D2 (hi.next a1 a2)
  have c10 : ∀ D' : KI → Nat → Int32, cInv D 10 D' → KW X 93 [some (kR (some (6, 3, 0))), some (kR (some (6, 2, 0)))] [kR (some (8, 3, 10)), kR (some (8, 2, 10)), kR (some (6, 3, 0))] (km D' G) 0 0 := by
    intro D' hi
    have l2 := mLive8 (P := 2) (k := 10) (Or.inl rfl) (by decide) (by decide)
    have l3 := mLive8 (P := 3) (k := 10) (Or.inr rfl) (by decide) (by decide)
    refine KW_callV hC (by decide +kernel) kl6_89 (by decide) ((m_copy (k := 10) (by decide) (by decide))) rfl rfl (Nat.le_of_ble_eq_true rfl) rfl hx3 (by simp [kOkL, kOk, hx2, hx3, l2, l3]) (by simp [kOkS, kOk, l2, l3]) (Nat.le_of_ble_eq_true rfl) (Nat.le_of_ble_eq_true rfl) (Nat.le_of_ble_eq_true rfl) ?_
    rintro v M' ⟨rfl, D2, rfl, a1, a2⟩
    refine kwX6_become_96 hC hE ?_
    simp only [kbX6_become_96, mX6_become, kblk, kstp, kent, kpad, kget, kst1, kst2, kc2, cond_false, cond_true, kfv, kfit, kOkf, kputv, kputD, kputG, kcpy, kcat, kRR, kNN, true_and, and_true, if_true, if_false, if_pos, Nat.reduceAdd, Nat.reduceEqDiff, Nat.reduceLeDiff, Nat.reduceLT, reduceIte, Prod.mk.injEq, eq_self, false_and, and_false, reduceCtorEq, Nat.reduceSub, List.reverse_cons, List.reverse_nil, List.nil_append, List.cons_append, Option.toList_some, Option.toList_none, not_true_eq_false, not_false_eq_true, hx2, hx3]
    exact c11 D2 (hi.next a1 a2)
  have c9 : ∀ D' : KI → Nat → Int32, cInv D 9 D' → KW X 81 [some (kR (some (6, 3, 0))), some (kR (some (6, 2, 0)))] [kR (some (8, 3, 9)), kR (some (8, 2, 9)), kR (some (6, 3, 0))] (km D' G) 0 0 := by
    intro D' hi
    have l2 := mLive8 (P := 2) (k := 9) (Or.inl rfl) (by decide) (by decide)
    have l3 := mLive8 (P := 3) (k := 9) (Or.inr rfl) (by decide) (by decide)
    refine KW_callV hC (by decide +kernel) kl6_89 (by decide) ((m_copy (k := 9) (by decide) (by decide))) rfl rfl (Nat.le_of_ble_eq_true rfl) rfl hx3 (by simp [kOkL, kOk, hx2, hx3, l2, l3]) (by simp [kOkS, kOk, l2, l3]) (Nat.le_of_ble_eq_true rfl) (Nat.le_of_ble_eq_true rfl) (Nat.le_of_ble_eq_true rfl) ?_
    rintro v M' ⟨rfl, D2, rfl, a1, a2⟩
    refine kwX6_become_84 hC hE ?_
    simp only [kbX6_become_84, mX6_become, kblk, kstp, kent, kpad, kget, kst1, kst2, kc2, cond_false, cond_true, kfv, kfit, kOkf, kputv, kputD, kputG, kcpy, kcat, kRR, kNN, true_and, and_true, if_true, if_false, if_pos, Nat.reduceAdd, Nat.reduceEqDiff, Nat.reduceLeDiff, Nat.reduceLT, reduceIte, Prod.mk.injEq, eq_self, false_and, and_false, reduceCtorEq, Nat.reduceSub, List.reverse_cons, List.reverse_nil, List.nil_append, List.cons_append, Option.toList_some, Option.toList_none, not_true_eq_false, not_false_eq_true, hx2, hx3]
    exact c10 D2 (hi.next a1 a2)
  have e1 : ∀ v0, kput D (6, 3, 0) 0 v0 (6, 2, 0) 1 = D (6, 2, 0) 1 := fun _ => by simp [kput]
  have e2 : ∀ v0 v1, kput (kput D (6, 3, 0) 0 v0) (6, 3, 0) 1 v1 (6, 2, 0) 2 = D (6, 2, 0) 2 := fun _ _ => by simp [kput]
  have e3 : ∀ v0 v1 v2, kput (kput (kput D (6, 3, 0) 0 v0) (6, 3, 0) 1 v1) (6, 3, 0) 2 v2 (6, 2, 0) 3 = D (6, 2, 0) 3 := fun _ _ _ => by simp [kput]
  have e4 : ∀ v0 v1 v2 v3, kput (kput (kput (kput D (6, 3, 0) 0 v0) (6, 3, 0) 1 v1) (6, 3, 0) 2 v2) (6, 3, 0) 3 v3 (6, 2, 0) 4 = D (6, 2, 0) 4 := fun _ _ _ _ => by simp [kput]
  have e5 : ∀ v0 v1 v2 v3 v4, kput (kput (kput (kput (kput D (6, 3, 0) 0 v0) (6, 3, 0) 1 v1) (6, 3, 0) 2 v2) (6, 3, 0) 3 v3) (6, 3, 0) 4 v4 (6, 2, 0) 5 = D (6, 2, 0) 5 := fun _ _ _ _ _ => by simp [kput]
  have e6 : ∀ v0 v1 v2 v3 v4 v5, kput (kput (kput (kput (kput (kput D (6, 3, 0) 0 v0) (6, 3, 0) 1 v1) (6, 3, 0) 2 v2) (6, 3, 0) 3 v3) (6, 3, 0) 4 v4) (6, 3, 0) 5 v5 (6, 2, 0) 6 = D (6, 2, 0) 6 := fun _ _ _ _ _ _ => by simp [kput]
  have e7 : ∀ v0 v1 v2 v3 v4 v5 v6, kput (kput (kput (kput (kput (kput (kput D (6, 3, 0) 0 v0) (6, 3, 0) 1 v1) (6, 3, 0) 2 v2) (6, 3, 0) 3 v3) (6, 3, 0) 4 v4) (6, 3, 0) 5 v5) (6, 3, 0) 6 v6 (6, 2, 0) 7 = D (6, 2, 0) 7 := fun _ _ _ _ _ _ _ => by simp [kput]
  have e8 : ∀ v0 v1 v2 v3 v4 v5 v6 v7, kput (kput (kput (kput (kput (kput (kput (kput D (6, 3, 0) 0 v0) (6, 3, 0) 1 v1) (6, 3, 0) 2 v2) (6, 3, 0) 3 v3) (6, 3, 0) 4 v4) (6, 3, 0) 5 v5) (6, 3, 0) 6 v6) (6, 3, 0) 7 v7 (6, 2, 0) 8 = D (6, 2, 0) 8 := fun _ _ _ _ _ _ _ _ => by simp [kput]
  refine kwX6_become_0 hC hE ?_
  simp only [kbX6_become_0, mX6_become, kblk, kstp, kent, kpad, kget, kst1, kst2, kc2, cond_false, cond_true, kfv, kfit, kOkf, kputv, kputD, kputG, kcpy, kcat, kRR, kNN, true_and, and_true, if_true, if_false, if_pos, Nat.reduceAdd, Nat.reduceEqDiff, Nat.reduceLeDiff, Nat.reduceLT, reduceIte, Prod.mk.injEq, eq_self, false_and, and_false, reduceCtorEq, Nat.reduceSub, List.reverse_cons, List.reverse_nil, List.nil_append, List.cons_append, Option.toList_some, Option.toList_none, not_true_eq_false, not_false_eq_true, hx2, hx3, e1, e2, e3, e4, e5, e6, e7, e8]
  refine c9 _ ⟨fun k' h1 h2 => absurd h2 (by omega), fun j hj => ?_, kOff.put.trans (kOff.put.trans (kOff.put.trans (kOff.put.trans (kOff.put.trans (kOff.put.trans (kOff.put.trans (kOff.put.trans kOff.put)))))))⟩
  have : j = 0 ∨ j = 1 ∨ j = 2 ∨ j = 3 ∨ j = 4 ∨ j = 5 ∨ j = 6 ∨ j = 7 ∨ j = 8 := by omega
  rcases this with rfl | rfl | rfl | rfl | rfl | rfl | rfl | rfl | rfl <;> simp [kput]
theorem m_join (hP : P = 2 ∨ P = 3) (hm : mSt P D σ) (hs : kS σ) (hq : qOK σ) (hlt : tG σ < 91) {l : Nat} (hl : l < tL σ) (a b : Int32) : SpQ mX6_join 0 0 [kR (some (6, P, 0)), kI (nI l), kI a, kI b] (km D G) (fun v M' => v = some (kI (nI (tG σ))) ∧ mTo P D G (mkGroup σ l a b) M') := by
  refine SpQ_of (own := 6) (ini := false) (by decide +kernel) rfl (by decide) (Nat.le_of_ble_eq_true rfl) ?_
  intro X hC hE hL0
  obtain ⟨bC, bL, bG, -⟩ := hs.1
  have hx := mLive hP
  have l15 := mLive8 (k := 15) hP (by decide) (by decide)
  have l16 := mLive8 (k := 16) hP (by decide) (by decide)
  have l19 := mLive8 (k := 19) hP (by decide) (by decide)
  have l20 := mLive8 (k := 20) hP (by decide) (by decide)
  have l21 := mLive8 (k := 21) hP (by decide) (by decide)
  have n15 := kN8_P (k := 15) hP
  have n16 := kN8_P (k := 16) hP
  have n19 := kN8_P (k := 19) hP
  have n20 := kN8_P (k := 20) hP
  have n21 := kN8_P (k := 21) hP
  simp only [Nat.reduceLT, Nat.reduceEqDiff, if_false, if_true] at n15 n16 n19 n20 n21
  have hcg := nI_clamp (show tG σ < 2 ^ 31 by omega)
  have q3 : D (6, P, 0) 3 = nI (tG σ) := hm.1.2.2.2.1
  have q0 : D (6, P, 0) 0 = tZ σ 41 0 := hm.1.1
  have hql := hs.qlen hl
  have e0 : ∀ x y, kput (kput D (8, P, 15) (tG σ) x) (8, P, 16) (tG σ) y (6, P, 0) 0 = tZ σ 41 0 := fun x y => by simp [kput, q0]
  have e3 : ∀ x y z w v, kput (kput (kput (kput (kput D (8, P, 15) (tG σ) x) (8, P, 16) (tG σ) y) (8, P, 19) (tG σ) z) (8, P, 20) (tG σ) w) (8, P, 21) (tG σ) v (6, P, 0) 3 = nI (tG σ) := fun x y z w v => by simp [kput, q3]
  refine kwX6_join_0 hC hE ?_
  simp only [kbX6_join_0, mX6_join, kblk, kstp, kent, kpad, kget, kst1, kst2, kc2, cond_false, cond_true, kfv, kfit, kOkf, kputv, kputD, kputG, kcpy, kcat, kRR, kNN, true_and, and_true, if_true, if_false, if_pos, Nat.reduceAdd, Nat.reduceEqDiff, Nat.reduceLeDiff, Nat.reduceLT, reduceIte, Prod.mk.injEq, eq_self, false_and, and_false, reduceCtorEq, Nat.reduceSub, List.reverse_cons, List.reverse_nil, List.nil_append, List.cons_append, Option.toList_some, Option.toList_none, not_true_eq_false, not_false_eq_true, hx, l15, l16, l19, l20, l21, n15, n16, n19, n20, n21, hcg, q3, e0, e3, nI_1]
  refine ⟨vp_in_nI (show tG σ < 91 by omega) (by omega), vp_in_nI (show tG σ < 91 by omega) (by omega), vp_in_nI (show tG σ < 91 by omega) (by omega), vp_in_nI (show tG σ < 91 by omega) (by omega), vp_in_nI (show tG σ < 91 by omega) (by omega), ?_⟩
  generalize hD1 : kput (kput (kput (kput (kput (kput D (8, P, 15) (tG σ) a) (8, P, 16) (tG σ) b) (8, P, 19) (tG σ) (tZ σ 41 0)) (8, P, 20) (tG σ) (-1)) (8, P, 21) (tG σ) 0) (6, P, 0) 3 (nI (tG σ + 1)) = D1
  have ho1 : kOff P D1 D := by
    rw [← hD1]
    exact kOff.put.trans (kOff.put.trans (kOff.put.trans (kOff.put.trans (kOff.put.trans kOff.put))))
  let τ : KT := tcnt (tset (startT σ (tG σ) a b (tZ σ 41 0)) 12 (tG σ) (D (8, P, 17) (tG σ))) (tC σ) (tL σ) (tG σ + 1)
  have zz : ∀ f x, ¬ (10 ≤ f ∧ f ≤ 17 ∧ x = tG σ) → tZ τ f x = tZ σ f x := by
    intro f x hn
    have h0 : ¬ (f = 10 ∧ x = tG σ) := by omega
    have h1 : ¬ (f = 11 ∧ x = tG σ) := by omega
    have h2 : ¬ (f = 12 ∧ x = tG σ) := by omega
    have h3 : ¬ (f = 13 ∧ x = tG σ) := by omega
    have h4 : ¬ (f = 14 ∧ x = tG σ) := by omega
    have h5 : ¬ (f = 15 ∧ x = tG σ) := by omega
    have h6 : ¬ (f = 16 ∧ x = tG σ) := by omega
    have h7 : ¬ (f = 17 ∧ x = tG σ) := by omega
    simp only [τ, startT, tZ_tset, tQ_tset, tS_tset, tC_tset, tL_tset, tG_tset, tZ_tsetQ, tQ_tsetQ, tS_tsetQ, tC_tsetQ, tL_tsetQ, tG_tsetQ, tZ_tsetS, tQ_tsetS, tS_tsetS, tC_tsetS, tL_tsetS, tG_tsetS, tZ_tMod, tQ_tMod, tS_tMod, tC_tMod, tL_tMod, tG_tMod, tZ_tcnt, tQ_tcnt, tS_tcnt, tC_tcnt, tL_tcnt, tG_tcnt, zup, h0, h1, h2, h3, h4, h5, h6, h7, if_false]
  have z10 : tZ τ 10 (tG σ) = a := by simp [τ, startT, tZ_tset, tQ_tset, tS_tset, tC_tset, tL_tset, tG_tset, tZ_tsetQ, tQ_tsetQ, tS_tsetQ, tC_tsetQ, tL_tsetQ, tG_tsetQ, tZ_tsetS, tQ_tsetS, tS_tsetS, tC_tsetS, tL_tsetS, tG_tsetS, tZ_tMod, tQ_tMod, tS_tMod, tC_tMod, tL_tMod, tG_tMod, tZ_tcnt, tQ_tcnt, tS_tcnt, tC_tcnt, tL_tcnt, tG_tcnt, zup]
  have z11 : tZ τ 11 (tG σ) = b := by simp [τ, startT, tZ_tset, tQ_tset, tS_tset, tC_tset, tL_tset, tG_tset, tZ_tsetQ, tQ_tsetQ, tS_tsetQ, tC_tsetQ, tL_tsetQ, tG_tsetQ, tZ_tsetS, tQ_tsetS, tS_tsetS, tC_tsetS, tL_tsetS, tG_tsetS, tZ_tMod, tQ_tMod, tS_tMod, tC_tMod, tL_tMod, tG_tMod, tZ_tcnt, tQ_tcnt, tS_tcnt, tC_tcnt, tL_tcnt, tG_tcnt, zup]
  have z12 : tZ τ 12 (tG σ) = D (8, P, 17) (tG σ) := by simp [τ, startT, tZ_tset, tQ_tset, tS_tset, tC_tset, tL_tset, tG_tset, tZ_tsetQ, tQ_tsetQ, tS_tsetQ, tC_tsetQ, tL_tsetQ, tG_tsetQ, tZ_tsetS, tQ_tsetS, tS_tsetS, tC_tsetS, tL_tsetS, tG_tsetS, tZ_tMod, tQ_tMod, tS_tMod, tC_tMod, tL_tMod, tG_tMod, tZ_tcnt, tQ_tcnt, tS_tcnt, tC_tcnt, tL_tcnt, tG_tcnt, zup]
  have z13 : tZ τ 13 (tG σ) = -1 := by simp [τ, startT, tZ_tset, tQ_tset, tS_tset, tC_tset, tL_tset, tG_tset, tZ_tsetQ, tQ_tsetQ, tS_tsetQ, tC_tsetQ, tL_tsetQ, tG_tsetQ, tZ_tsetS, tQ_tsetS, tS_tsetS, tC_tsetS, tL_tsetS, tG_tsetS, tZ_tMod, tQ_tMod, tS_tMod, tC_tMod, tL_tMod, tG_tMod, tZ_tcnt, tQ_tcnt, tS_tcnt, tC_tcnt, tL_tcnt, tG_tcnt, zup]
  have z14 : tZ τ 14 (tG σ) = -1 := by simp [τ, startT, tZ_tset, tQ_tset, tS_tset, tC_tset, tL_tset, tG_tset, tZ_tsetQ, tQ_tsetQ, tS_tsetQ, tC_tsetQ, tL_tsetQ, tG_tsetQ, tZ_tsetS, tQ_tsetS, tS_tsetS, tC_tsetS, tL_tsetS, tG_tsetS, tZ_tMod, tQ_tMod, tS_tMod, tC_tMod, tL_tMod, tG_tMod, tZ_tcnt, tQ_tcnt, tS_tcnt, tC_tcnt, tL_tcnt, tG_tcnt, zup]
  have z15 : tZ τ 15 (tG σ) = tZ σ 41 0 := by simp [τ, startT, tZ_tset, tQ_tset, tS_tset, tC_tset, tL_tset, tG_tset, tZ_tsetQ, tQ_tsetQ, tS_tsetQ, tC_tsetQ, tL_tsetQ, tG_tsetQ, tZ_tsetS, tQ_tsetS, tS_tsetS, tC_tsetS, tL_tsetS, tG_tsetS, tZ_tMod, tQ_tMod, tS_tMod, tC_tMod, tL_tMod, tG_tMod, tZ_tcnt, tQ_tcnt, tS_tcnt, tC_tcnt, tL_tcnt, tG_tcnt, zup]
  have z16 : tZ τ 16 (tG σ) = -1 := by simp [τ, startT, tZ_tset, tQ_tset, tS_tset, tC_tset, tL_tset, tG_tset, tZ_tsetQ, tQ_tsetQ, tS_tsetQ, tC_tsetQ, tL_tsetQ, tG_tsetQ, tZ_tsetS, tQ_tsetS, tS_tsetS, tC_tsetS, tL_tsetS, tG_tsetS, tZ_tMod, tQ_tMod, tS_tMod, tC_tMod, tL_tMod, tG_tMod, tZ_tcnt, tQ_tcnt, tS_tcnt, tC_tcnt, tL_tcnt, tG_tcnt, zup]
  have z17 : tZ τ 17 (tG σ) = 0 := by simp [τ, startT, tZ_tset, tQ_tset, tS_tset, tC_tset, tL_tset, tG_tset, tZ_tsetQ, tQ_tsetQ, tS_tsetQ, tC_tsetQ, tL_tsetQ, tG_tsetQ, tZ_tsetS, tQ_tsetS, tS_tsetS, tC_tsetS, tL_tsetS, tG_tsetS, tZ_tMod, tQ_tMod, tS_tMod, tC_tMod, tL_tMod, tG_tMod, tZ_tcnt, tQ_tcnt, tS_tcnt, tC_tcnt, tL_tcnt, tG_tcnt, zup]
  have hm1 : mSt P D1 τ := by
    have s : ∀ j, j ≠ 3 → D1 (6, P, 0) j = D (6, P, 0) j := fun j hj => by rw [← hD1]; simp [kput, hj]
    have s3 : D1 (6, P, 0) 3 = nI (tG σ + 1) := by rw [← hD1]; simp [kput]
    have o : ∀ k, k ≠ 15 → k ≠ 16 → k ≠ 19 → k ≠ 20 → k ≠ 21 → D1 (8, P, k) = D (8, P, k) := fun k h1 h2 h3 h4 h5 => by
      funext j
      rw [← hD1]; simp [kput, h1, h2, h3, h4, h5]
    have g0 : ∀ k x, x ≠ tG σ → D1 (8, P, k) x = D (8, P, k) x := fun k x hx => by rw [← hD1]; simp [kput, hx]
    obtain ⟨⟨a0, a1, a2, a3, a4, a5, a6, a7, a8⟩, h9, h10, h11, h12, h13, h14, hg⟩ := hm
    refine ⟨⟨?_, ?_, ?_, s3, ?_, ?_, ?_, ?_, ?_⟩, fun j x hx => ?_, fun c hc => ?_, fun c hc => ?_, fun c hc => ?_, fun c hc => ?_, fun c hc j x hx => ?_, fun g hgg => ?_⟩
    · rw [s 0 (by decide), a0, zz _ _ (by omega)]
    · rw [s 1 (by decide), a1, zz _ _ (by omega)]
    · rw [s 2 (by decide), a2, zz _ _ (by omega)]
    · rw [s 4 (by decide), a4, zz _ _ (by omega)]
    · rw [s 5 (by decide), a5]
      show isum _ (tG σ) = isum _ (tG σ + 1)
      simp only [isum]
      rw [z17, Int32.mul_zero, Int32.add_zero]
      exact isum_congr _ (fun g hg => by rw [zz 10 g (by omega), zz 17 g (by omega)])
    · rw [s 6 (by decide), a6]
      exact isum_congr _ (fun g hg => by rw [zz 4 g (by omega)])
    · rw [s 7 (by decide), a7, zz _ _ (by omega)]
    · rw [s 8 (by decide), a8]; rfl
    · rw [o 9 (by decide) (by decide) (by decide) (by decide) (by decide)]; exact h9 j x hx
    · rw [o 10 (by decide) (by decide) (by decide) (by decide) (by decide), zz _ _ (by omega)]; exact h10 c hc
    · rw [o 11 (by decide) (by decide) (by decide) (by decide) (by decide), zz _ _ (by omega)]; exact h11 c hc
    · rw [o 12 (by decide) (by decide) (by decide) (by decide) (by decide), zz _ _ (by omega)]; exact h12 c hc
    · rw [o 13 (by decide) (by decide) (by decide) (by decide) (by decide)]; exact h13 c hc
    · rw [o 14 (by decide) (by decide) (by decide) (by decide) (by decide)]; exact h14 c hc j x hx
    · by_cases hgt : g = tG σ
      · subst hgt
        refine ⟨by rw [z10, ← hD1]; simp [kput], by rw [z11, ← hD1]; simp [kput], by rw [z12, ← hD1]; simp [kput], by rw [z15, ← hD1]; simp [kput], by rw [z16, ← hD1]; simp [kput], by rw [z17, ← hD1]; simp [kput], fun z => absurd z13 z, fun z => absurd z14 z⟩
      · have hgl : g < tG σ := by have : g < tG σ + 1 := hgg; omega
        have := hg g hgl
        simp only [mGr] at this ⊢
        rw [g0 _ _ hgt, g0 _ _ hgt, g0 _ _ hgt, g0 _ _ hgt, g0 _ _ hgt, g0 _ _ hgt, g0 _ _ hgt, zz 10 g (by omega), zz 11 g (by omega), zz 12 g (by omega), zz 13 g (by omega), zz 14 g (by omega), zz 15 g (by omega), zz 16 g (by omega), zz 17 g (by omega)]
        exact this
  refine KW_callV hC (by decide +kernel) kl6_93 (by decide) ((m_enter hP hm1 (σ := τ) (g := tG σ) (l := l) hq hlt (by omega) (show (tQ σ l).length < 91 by omega) z14)) rfl rfl (Nat.le_of_ble_eq_true rfl) rfl hx (by simp [kOkL, kOk, hx]) (by simp [kOkS]) (Nat.le_of_ble_eq_true rfl) (Nat.le_of_ble_eq_true rfl) (Nat.le_of_ble_eq_true rfl) ?_
  rintro v M' ⟨rfl, D2, rfl, hm2, ho2⟩
  refine kwX6_join_66 hC hE ?_
  simp only [kbX6_join_66, mX6_join, kblk, kstp, kent, kpad, kget, kst1, kst2, kc2, cond_false, cond_true, kfv, kfit, kOkf, kputv, kputD, kputG, kcpy, kcat, kRR, kNN, true_and, and_true, if_true, if_false, if_pos, Nat.reduceAdd, Nat.reduceEqDiff, Nat.reduceLeDiff, Nat.reduceLT, reduceIte, Prod.mk.injEq, eq_self, false_and, and_false, reduceCtorEq, Nat.reduceSub, List.reverse_cons, List.reverse_nil, List.nil_append, List.cons_append, Option.toList_some, Option.toList_none, not_true_eq_false, not_false_eq_true]
  refine ⟨⟨rfl, D2, rfl, mSt_congr hm2 rfl rfl rfl rfl (fun f j _ _ => ?_), ho2.trans ho1⟩, trivial, Nat.le_refl _, Nat.le_refl _⟩
  show zup (tZ (startT σ (tG σ) a b (tZ σ 41 0))) 13 (tG σ) (nI l) f j = zup (zup (zup (tZ (startT σ (tG σ) a b (tZ σ 41 0))) 12 (tG σ) (D (8, P, 17) (tG σ))) 12 (tG σ) 0) 13 (tG σ) (nI l) f j
  by_cases h13 : f = 13 ∧ j = tG σ
  · obtain ⟨rfl, rfl⟩ := h13
    rw [zup_eq, zup_eq]
  · by_cases h12 : f = 12 ∧ j = tG σ
    · obtain ⟨rfl, rfl⟩ := h12
      rw [zup_ne (by decide), zup_ne (by decide), zup_eq]
      simp [startT, tZ_tset, tQ_tset, tS_tset, tC_tset, tL_tset, tG_tset, tZ_tsetQ, tQ_tsetQ, tS_tsetQ, tC_tsetQ, tL_tsetQ, tG_tsetQ, tZ_tsetS, tQ_tsetS, tS_tsetS, tC_tsetS, tL_tsetS, tG_tsetS, tZ_tMod, tQ_tMod, tS_tMod, tC_tMod, tL_tMod, tG_tMod, tZ_tcnt, tQ_tcnt, tS_tcnt, tC_tcnt, tL_tcnt, tG_tcnt, zup]
    · simp only [zup, h13, h12, if_false]
end MBECOME

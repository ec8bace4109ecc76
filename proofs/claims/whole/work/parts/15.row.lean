/-! Row: numbers in a row, as a list. -/
def rowRep (D : KI → Nat → Int32) (L k : Nat) (xs : List Nat) : Prop := D (4, L, k) 1 = nI xs.length ∧ ∀ i x, xs[i]? = some x → D (8, L, k + 1) i = nI x
/-- only this row's cells have changed -/
def rowOff (D' D : KI → Nat → Int32) (L k : Nat) : Prop := ∀ i : KI, i ≠ (4, L, k) → i ≠ (8, L, k + 1) → D' i = D i
theorem rowRep_0 {D : KI → Nat → Int32} {L k : Nat} {xs : List Nat} (h : rowRep D L k xs) : D (4, L, k) 1 = nI xs.length := h.1
theorem s_Row_first {D : KI → Nat → Int32} {G : KI → Nat → Int64} {L k : Nat} {xs : List Nat} (hL : L < 2) (hk : k < 5) (hr : rowRep D L k xs) (hlen : xs.length ≤ kN8 L (k + 1)) (h91 : xs.length ≤ 91) :
    SpQ mX4_first 0 0 [kR (some (4, L, k))] (km D G) (fun v M' => v = some (kI (match xs.head? with | none => -1 | some x => nI x)) ∧ M' = km D G) := by
  refine SpQ_of (own := 4) (ini := false) (by decide +kernel) rfl (by decide) (Nat.le_of_ble_eq_true rfl) ?_
  intro X hC hE hL0
  have hlive : kLive (4, L, k) := ⟨hL, hk⟩
  have hlive8 : kLive (8, L, k + 1) := Or.inl ⟨hL, by omega⟩
  refine kwX4_first_0 hC hE ?_
  simp only [kbX4_first_0, mX4_first, kblk, kstp, kent, kpad, kget, kst1, kst2, kc2, cond_false, cond_true, kfv, kfit, kOkf, kputv, kputD, kputG, kcpy, kcat, kRR, kNN, true_and, and_true, if_true, if_false, if_pos, Nat.reduceAdd, Nat.reduceEqDiff, Nat.reduceLeDiff, Nat.reduceLT, reduceIte, Prod.mk.injEq, eq_self, false_and, and_false, reduceCtorEq, Nat.reduceSub, List.reverse_cons, List.reverse_nil, List.nil_append, List.cons_append, Option.toList_some, Option.toList_none, not_true_eq_false, not_false_eq_true, hlive, hr.1]
  refine ⟨fun h => ?_, fun h => ?_⟩
  · have hx : xs = [] := by
      cases xs with
      | nil => rfl
      | cons a r => exact absurd h (nI_nle (by simp) (by simp at h91 ⊢; omega))
    subst hx
    refine kwX4_first_16 hC hE ?_
    simp only [kbX4_first_16, mX4_first, kblk, kstp, kent, kpad, kget, kst1, kst2, kc2, cond_false, cond_true, kfv, kfit, kOkf, kputv, kputD, kputG, kcpy, kcat, kRR, kNN, true_and, and_true, if_true, if_false, if_pos, Nat.reduceAdd, Nat.reduceEqDiff, Nat.reduceLeDiff, Nat.reduceLT, reduceIte, Prod.mk.injEq, eq_self, false_and, and_false, reduceCtorEq, Nat.reduceSub, List.reverse_cons, List.reverse_nil, List.nil_append, List.cons_append, Option.toList_some, Option.toList_none, not_true_eq_false, not_false_eq_true]
    refine kwX4_first_17 hC hE ?_
    simp only [kbX4_first_17, mX4_first, kblk, kstp, kent, kpad, kget, kst1, kst2, kc2, cond_false, cond_true, kfv, kfit, kOkf, kputv, kputD, kputG, kcpy, kcat, kRR, kNN, true_and, and_true, if_true, if_false, if_pos, Nat.reduceAdd, Nat.reduceEqDiff, Nat.reduceLeDiff, Nat.reduceLT, reduceIte, Prod.mk.injEq, eq_self, false_and, and_false, reduceCtorEq, Nat.reduceSub, List.reverse_cons, List.reverse_nil, List.nil_append, List.cons_append, Option.toList_some, Option.toList_none, not_true_eq_false, not_false_eq_true]
    exact ⟨⟨rfl, rfl⟩, trivial, Nat.le_refl _, Nat.le_refl _⟩
  · cases xs with
    | nil => exact absurd nI_0 (fun z => h (by simp [z]))
    | cons a r =>
      refine kwX4_first_7 hC hE ?_
      simp only [kbX4_first_7, mX4_first, kblk, kstp, kent, kpad, kget, kst1, kst2, kc2, cond_false, cond_true, kfv, kfit, kOkf, kputv, kputD, kputG, kcpy, kcat, kRR, kNN, true_and, and_true, if_true, if_false, if_pos, Nat.reduceAdd, Nat.reduceEqDiff, Nat.reduceLeDiff, Nat.reduceLT, reduceIte, Prod.mk.injEq, eq_self, false_and, and_false, reduceCtorEq, Nat.reduceSub, List.reverse_cons, List.reverse_nil, List.nil_append, List.cons_append, Option.toList_some, Option.toList_none, not_true_eq_false, not_false_eq_true, hlive, hlive8]
      refine ⟨by simp [vp_in]; simp at hlen; omega, ?_⟩
      refine kwX4_first_17 hC hE ?_
      simp only [kbX4_first_17, mX4_first, kblk, kstp, kent, kpad, kget, kst1, kst2, kc2, cond_false, cond_true, kfv, kfit, kOkf, kputv, kputD, kputG, kcpy, kcat, kRR, kNN, true_and, and_true, if_true, if_false, if_pos, Nat.reduceAdd, Nat.reduceEqDiff, Nat.reduceLeDiff, Nat.reduceLT, reduceIte, Prod.mk.injEq, eq_self, false_and, and_false, reduceCtorEq, Nat.reduceSub, List.reverse_cons, List.reverse_nil, List.nil_append, List.cons_append, Option.toList_some, Option.toList_none, not_true_eq_false, not_false_eq_true]
      have h0 := hr.2 0 a rfl
      have e : (0 : Int32).toNatClampNeg = 0 := by decide
      refine ⟨⟨?_, rfl⟩, trivial, Nat.le_refl _, Nat.le_refl _⟩
      rw [e, h0]; rfl
theorem rowOff.refl {D : KI → Nat → Int32} {L k : Nat} : rowOff D D L k := fun _ _ _ => rfl
theorem rowOff.trans {D1 D2 D3 : KI → Nat → Int32} {L k : Nat} (h1 : rowOff D1 D2 L k) (h2 : rowOff D2 D3 L k) : rowOff D1 D3 L k := fun i a b => (h1 i a b).trans (h2 i a b)
theorem s_Row_append {D : KI → Nat → Int32} {G : KI → Nat → Int64} {L k : Nat} {xs : List Nat} {n : Nat} (hL : L < 2) (hk : k < 5) (hr : rowRep D L k xs) (hlen : xs.length < kN8 L (k + 1)) (h91 : kN8 L (k + 1) ≤ 91) :
    SpQ mX4_append 0 0 [kR (some (4, L, k)), kI (nI n)] (km D G) (fun v M' => v = none ∧ ∃ D', M' = km D' G ∧ rowRep D' L k (xs ++ [n]) ∧ rowOff D' D L k) := by
  refine SpQ_of (own := 4) (ini := false) (by decide +kernel) rfl (by decide) (Nat.le_of_ble_eq_true rfl) ?_
  intro X hC hE hL0
  have hlive : kLive (4, L, k) := ⟨hL, hk⟩
  have hlive8 : kLive (8, L, k + 1) := Or.inl ⟨hL, by omega⟩
  have hle : (8 : Nat) ≤ 12 := by decide
  refine kwX4_append_0 hC hE ?_
  simp only [kbX4_append_0, mX4_append, kblk, kstp, kent, kpad, kget, kst1, kst2, kc2, cond_false, cond_true, kfv, kfit, kOkf, kputv, kputD, kputG, kcpy, kcat, kRR, kNN, true_and, and_true, if_true, if_false, if_pos, Nat.reduceAdd, Nat.reduceEqDiff, Nat.reduceLeDiff, Nat.reduceLT, reduceIte, Prod.mk.injEq, eq_self, false_and, and_false, reduceCtorEq, Nat.reduceSub, List.reverse_cons, List.reverse_nil, List.nil_append, List.cons_append, Option.toList_some, Option.toList_none, not_true_eq_false, not_false_eq_true, hlive, hr.1, hlive8, Nat.le_refl]
  refine ⟨fun h => ?_, fun h => ?_⟩
  · exact absurd h (nI_ge hlen (by omega))
  · refine kwX4_append_12 hC hE ?_
    simp only [kbX4_append_12, mX4_append, kblk, kstp, kent, kpad, kget, kst1, kst2, kc2, cond_false, cond_true, kfv, kfit, kOkf, kputv, kputD, kputG, kcpy, kcat, kRR, kNN, true_and, and_true, if_true, if_false, if_pos, Nat.reduceAdd, Nat.reduceEqDiff, Nat.reduceLeDiff, Nat.reduceLT, reduceIte, Prod.mk.injEq, eq_self, false_and, and_false, reduceCtorEq, Nat.reduceSub, List.reverse_cons, List.reverse_nil, List.nil_append, List.cons_append, Option.toList_some, Option.toList_none, not_true_eq_false, not_false_eq_true, hlive, hr.1, hlive8]
    refine ⟨vp_in_nI hlen (by omega), ?_⟩
    simp only [nI_clamp (show xs.length < 2 ^ 31 by omega)]
    trace_state
    sorry

/-! Row: numbers in a row, as a list. -/
def rowRep (D : KI → Nat → Int32) (L k : Nat) (xs : List Nat) : Prop := D (4, L, k) 1 = nI xs.length ∧ ∀ i x, xs[i]? = some x → D (8, L, k + 1) i = nI x
/-- only this row's cells have changed -/
def rowOff (D' D : KI → Nat → Int32) (L k : Nat) : Prop := ∀ i : KI, i ≠ (4, L, k) → i ≠ (8, L, k + 1) → D' i = D i
theorem rowRep_0 {D : KI → Nat → Int32} {L k : Nat} {xs : List Nat} (h : rowRep D L k xs) : D (4, L, k) 1 = nI xs.length := h.1
theorem s_Row_first {D : KI → Nat → Int32} {G : KI → Nat → Int64} {L k : Nat} {xs : List Nat} (hL : L < 2) (hk : k < 5) (hr : rowRep D L k xs) (hlen : xs.length ≤ kN8 L (k + 1)) (h91 : xs.length ≤ 91) :
    SpQ mX4_first 0 0 [kR (some (4, L, k))] (km D G) (fun v M' => v = some (kI (match xs.head? with | none => -1 | some x => nI x)) ∧ M' = km D G) := by
  refine SpQ_of (own := 4) (ini := false) (by decide +kernel) rfl (by decide) (Nat.le_of_ble_eq_true rfl) ?_
  intro X hC hE hL0
  have hlive : kLive (4, L, k) := ⟨hL, hk⟩
  have hlive8 : kLive (8, L, k + 1) := Or.inl ⟨hL, by omega⟩
  refine kwX4_first_0 hC hE ?_
  simp only [kbX4_first_0, mX4_first, kblk, kstp, kent, kpad, kget, kst1, kst2, kc2, cond_false, cond_true, kfv, kfit, kOkf, kputv, kputD, kputG, kcpy, kcat, kRR, kNN, true_and, and_true, if_true, if_false, if_pos, Nat.reduceAdd, Nat.reduceEqDiff, Nat.reduceLeDiff, Nat.reduceLT, reduceIte, Prod.mk.injEq, eq_self, false_and, and_false, reduceCtorEq, Nat.reduceSub, List.reverse_cons, List.reverse_nil, List.nil_append, List.cons_append, Option.toList_some, Option.toList_none, not_true_eq_false, not_false_eq_true, hlive, hr.1]
  refine ⟨fun h => ?_, fun h => ?_⟩
  · have hx : xs = [] := by
      cases xs with
      | nil => rfl
      | cons a r => exact absurd h (nI_nle (by simp) (by simp at h91 ⊢; omega))
    subst hx
    refine kwX4_first_16 hC hE ?_
    simp only [kbX4_first_16, mX4_first, kblk, kstp, kent, kpad, kget, kst1, kst2, kc2, cond_false, cond_true, kfv, kfit, kOkf, kputv, kputD, kputG, kcpy, kcat, kRR, kNN, true_and, and_true, if_true, if_false, if_pos, Nat.reduceAdd, Nat.reduceEqDiff, Nat.reduceLeDiff, Nat.reduceLT, reduceIte, Prod.mk.injEq, eq_self, false_and, and_false, reduceCtorEq, Nat.reduceSub, List.reverse_cons, List.reverse_nil, List.nil_append, List.cons_append, Option.toList_some, Option.toList_none, not_true_eq_false, not_false_eq_true]
    refine kwX4_first_17 hC hE ?_
    simp only [kbX4_first_17, mX4_first, kblk, kstp, kent, kpad, kget, kst1, kst2, kc2, cond_false, cond_true, kfv, kfit, kOkf, kputv, kputD, kputG, kcpy, kcat, kRR, kNN, true_and, and_true, if_true, if_false, if_pos, Nat.reduceAdd, Nat.reduceEqDiff, Nat.reduceLeDiff, Nat.reduceLT, reduceIte, Prod.mk.injEq, eq_self, false_and, and_false, reduceCtorEq, Nat.reduceSub, List.reverse_cons, List.reverse_nil, List.nil_append, List.cons_append, Option.toList_some, Option.toList_none, not_true_eq_false, not_false_eq_true]
    exact ⟨⟨rfl, rfl⟩, trivial, Nat.le_refl _, Nat.le_refl _⟩
  · cases xs with
    | nil => exact absurd nI_0 (fun z => h (by simp [z]))
    | cons a r =>
      refine kwX4_first_7 hC hE ?_
      simp only [kbX4_first_7, mX4_first, kblk, kstp, kent, kpad, kget, kst1, kst2, kc2, cond_false, cond_true, kfv, kfit, kOkf, kputv, kputD, kputG, kcpy, kcat, kRR, kNN, true_and, and_true, if_true, if_false, if_pos, Nat.reduceAdd, Nat.reduceEqDiff, Nat.reduceLeDiff, Nat.reduceLT, reduceIte, Prod.mk.injEq, eq_self, false_and, and_false, reduceCtorEq, Nat.reduceSub, List.reverse_cons, List.reverse_nil, List.nil_append, List.cons_append, Option.toList_some, Option.toList_none, not_true_eq_false, not_false_eq_true, hlive, hlive8]
      refine ⟨by simp [vp_in]; simp at hlen; omega, ?_⟩
      refine kwX4_first_17 hC hE ?_
      simp only [kbX4_first_17, mX4_first, kblk, kstp, kent, kpad, kget, kst1, kst2, kc2, cond_false, cond_true, kfv, kfit, kOkf, kputv, kputD, kputG, kcpy, kcat, kRR, kNN, true_and, and_true, if_true, if_false, if_pos, Nat.reduceAdd, Nat.reduceEqDiff, Nat.reduceLeDiff, Nat.reduceLT, reduceIte, Prod.mk.injEq, eq_self, false_and, and_false, reduceCtorEq, Nat.reduceSub, List.reverse_cons, List.reverse_nil, List.nil_append, List.cons_append, Option.toList_some, Option.toList_none, not_true_eq_false, not_false_eq_true]
      have h0 := hr.2 0 a rfl
      have e : (0 : Int32).toNatClampNeg = 0 := by decide
      refine ⟨⟨?_, rfl⟩, trivial, Nat.le_refl _, Nat.le_refl _⟩
      rw [e, h0]; rfl
theorem rowOff.refl {D : KI → Nat → Int32} {L k : Nat} : rowOff D D L k := fun _ _ _ => rfl
theorem rowOff.trans {D1 D2 D3 : KI → Nat → Int32} {L k : Nat} (h1 : rowOff D1 D2 L k) (h2 : rowOff D2 D3 L k) : rowOff D1 D3 L k := fun i a b => (h1 i a b).trans (h2 i a b)
theorem s_Row_append {D : KI → Nat → Int32} {G : KI → Nat → Int64} {L k : Nat} {xs : List Nat} {n : Nat} (hL : L < 2) (hk : k < 5) (hr : rowRep D L k xs) (hlen : xs.length < kN8 L (k + 1)) (h91 : kN8 L (k + 1) ≤ 91) :
    SpQ mX4_append 0 0 [kR (some (4, L, k)), kI (nI n)] (km D G) (fun v M' => v = none ∧ ∃ D', M' = km D' G ∧ rowRep D' L k (xs ++ [n]) ∧ rowOff D' D L k) := by
  refine SpQ_of (own := 4) (ini := false) (by decide +kernel) rfl (by decide) (Nat.le_of_ble_eq_true rfl) ?_
  intro X hC hE hL0
  have hlive : kLive (4, L, k) := ⟨hL, hk⟩
  have hlive8 : kLive (8, L, k + 1) := Or.inl ⟨hL, by omega⟩
  have hle : (8 : Nat) ≤ 12 := by decide
  refine kwX4_append_0 hC hE ?_
  simp only [kbX4_append_0, mX4_append, kblk, kstp, kent, kpad, kget, kst1, kst2, kc2, cond_false, cond_true, kfv, kfit, kOkf, kputv, kputD, kputG, kcpy, kcat, kRR, kNN, true_and, and_true, if_true, if_false, if_pos, Nat.reduceAdd, Nat.reduceEqDiff, Nat.reduceLeDiff, Nat.reduceLT, reduceIte, Prod.mk.injEq, eq_self, false_and, and_false, reduceCtorEq, Nat.reduceSub, List.reverse_cons, List.reverse_nil, List.nil_append, List.cons_append, Option.toList_some, Option.toList_none, not_true_eq_false, not_false_eq_true, hlive, hr.1, hlive8, Nat.le_refl]
  refine ⟨fun h => ?_, fun h => ?_⟩
  · exact absurd h (nI_ge hlen (by omega))
  · refine kwX4_append_12 hC hE ?_
    simp only [kbX4_append_12, mX4_append, kblk, kstp, kent, kpad, kget, kst1, kst2, kc2, cond_false, cond_true, kfv, kfit, kOkf, kputv, kputD, kputG, kcpy, kcat, kRR, kNN, true_and, and_true, if_true, if_false, if_pos, Nat.reduceAdd, Nat.reduceEqDiff, Nat.reduceLeDiff, Nat.reduceLT, reduceIte, Prod.mk.injEq, eq_self, false_and, and_false, reduceCtorEq, Nat.reduceSub, List.reverse_cons, List.reverse_nil, List.nil_append, List.cons_append, Option.toList_some, Option.toList_none, not_true_eq_false, not_false_eq_true, hlive, hr.1, hlive8]
    refine ⟨vp_in_nI hlen (by omega), ?_⟩
    simp only [nI_clamp (show xs.length < 2 ^ 31 by omega)]
    refine kwX4_append_32 hC hE ?_
    simp only [kbX4_append_32, mX4_append, kblk, kstp, kent, kpad, kget, kst1, kst2, kc2, cond_false, cond_true, kfv, kfit, kOkf, kputv, kputD, kputG, kcpy, kcat, kRR, kNN, true_and, and_true, if_true, if_false, if_pos, Nat.reduceAdd, Nat.reduceEqDiff, Nat.reduceLeDiff, Nat.reduceLT, reduceIte, Prod.mk.injEq, eq_self, false_and, and_false, reduceCtorEq, Nat.reduceSub, List.reverse_cons, List.reverse_nil, List.nil_append, List.cons_append, Option.toList_some, Option.toList_none, not_true_eq_false, not_false_eq_true]
    refine ⟨⟨rfl, _, rfl, ?_, ?_⟩, trivial, Nat.le_refl _, Nat.le_refl _⟩
    · refine ⟨?_, fun i x hx => ?_⟩
      · simp [kput, hr.1, nI_1]
      · rw [List.getElem?_append] at hx
        by_cases hi : i < xs.length
        · rw [if_pos hi] at hx
          have h1 := hr.2 i x hx
          have h2 : i ≠ xs.length := by omega
          simp [kput, h2, h1]
        · rw [if_neg hi] at hx
          have h2 : i = xs.length := by
            have := (List.getElem?_eq_some_iff.mp hx).1
            simp at this
            omega
          subst h2
          simp at hx
          simp [kput, hx]
    · intro i h1 h2
      funext j
      simp [kput, h1, h2]
theorem take_filter {xs : List Nat} {n i x : Nat} (hx : xs[i]? = some x) : (xs.take (i + 1)).filter (fun a => decide (a ≠ n)) = (xs.take i).filter (fun a => decide (a ≠ n)) ++ (if x = n then [] else [x]) := by
  rw [List.take_succ, hx, List.filter_append]
  congr 1
  by_cases h : x = n <;> simp [h]
theorem take_filter_le {xs : List Nat} {n i : Nat} : ((xs.take i).filter (fun a => decide (a ≠ n))).length ≤ i := by
  have h1 := List.length_filter_le (fun a => decide (a ≠ n)) (xs.take i)
  have h2 : (xs.take i).length ≤ i := by rw [List.length_take]; omega
  omega
theorem s_Row_remove {D : KI → Nat → Int32} {G : KI → Nat → Int64} {L k : Nat} {xs : List Nat} {n : Nat} (hL : L < 2) (hk : k < 5) (hr : rowRep D L k xs) (hlen : xs.length ≤ kN8 L (k + 1)) (h91 : kN8 L (k + 1) ≤ 91) (hn : n < 128) (hxs : ∀ x ∈ xs, x < 128) :
    SpQ mX4_remove 0 0 [kR (some (4, L, k)), kI (nI n)] (km D G) (fun v M' => v = none ∧ ∃ D', M' = km D' G ∧ rowRep D' L k (xs.filter (fun a => decide (a ≠ n))) ∧ rowOff D' D L k) := by
  refine SpQ_of (own := 4) (ini := false) (by decide +kernel) rfl (by decide) (Nat.le_of_ble_eq_true rfl) ?_
  intro X hC hE hL0
  have hlive : kLive (4, L, k) := ⟨hL, hk⟩
  have hlive8 : kLive (8, L, k + 1) := Or.inl ⟨hL, by omega⟩
  have loop : ∀ (m i : Nat) (D1 : KI → Nat → Int32), i + m = xs.length → D1 (4, L, k) 1 = nI xs.length → (∀ j y, ((xs.take i).filter (fun a => decide (a ≠ n)))[j]? = some y → D1 (8, L, k + 1) j = nI y) → (∀ j x, i ≤ j → xs[j]? = some x → D1 (8, L, k + 1) j = nI x) → rowOff D1 D L k →
      KW X 4 [some (kR (some (4, L, k))), some (kI (nI n)), some (kI (nI ((xs.take i).filter (fun a => decide (a ≠ n))).length)), some (kI (nI i))] [] (km D1 G) 0 0 := by
    intro m
    induction m with
    | zero =>
      intro i D1 him h1 h2 h3 h4
      have hi : i = xs.length := by omega
      subst hi
      refine kwX4_remove_4 hC hE ?_
      simp only [kbX4_remove_4, mX4_remove, kblk, kstp, kent, kpad, kget, kst1, kst2, kc2, cond_false, cond_true, kfv, kfit, kOkf, kputv, kputD, kputG, kcpy, kcat, kRR, kNN, true_and, and_true, if_true, if_false, if_pos, Nat.reduceAdd, Nat.reduceEqDiff, Nat.reduceLeDiff, Nat.reduceLT, reduceIte, Prod.mk.injEq, eq_self, false_and, and_false, reduceCtorEq, Nat.reduceSub, List.reverse_cons, List.reverse_nil, List.nil_append, List.cons_append, Option.toList_some, Option.toList_none, not_true_eq_false, not_false_eq_true, hlive, h1]
      refine ⟨fun _ => ?_, fun h => absurd (nI_le (Nat.le_refl _) (by omega)) h⟩
      refine kwX4_remove_43 hC hE ?_
      simp only [kbX4_remove_43, mX4_remove, kblk, kstp, kent, kpad, kget, kst1, kst2, kc2, cond_false, cond_true, kfv, kfit, kOkf, kputv, kputD, kputG, kcpy, kcat, kRR, kNN, true_and, and_true, if_true, if_false, if_pos, Nat.reduceAdd, Nat.reduceEqDiff, Nat.reduceLeDiff, Nat.reduceLT, reduceIte, Prod.mk.injEq, eq_self, false_and, and_false, reduceCtorEq, Nat.reduceSub, List.reverse_cons, List.reverse_nil, List.nil_append, List.cons_append, Option.toList_some, Option.toList_none, not_true_eq_false, not_false_eq_true, hlive]
      rw [List.take_length] at h2 ⊢
      refine ⟨⟨rfl, _, rfl, ⟨?_, fun j y hy => ?_⟩, ?_⟩, trivial, Nat.le_refl _, Nat.le_refl _⟩
      · simp [kput]
      · simp only [kput, Prod.mk.injEq, reduceCtorEq, false_and, if_false, Nat.reduceEqDiff]
        exact h2 j y hy
      · intro a ha1 ha2
        rw [← h4 a ha1 ha2]
        funext j
        simp [kput, ha1]
    | succ m ih =>
      intro i D1 him h1 h2 h3 h4
      have hi : i < xs.length := by omega
      have hxi : xs[i]? = some xs[i] := List.getElem?_eq_getElem hi
      have hlt : xs[i] < 128 := hxs _ (List.getElem_mem hi)
      have hys := take_filter_le (xs := xs) (n := n) (i := i)
      have hxv := h3 i _ (Nat.le_refl _) hxi
      refine kwX4_remove_4 hC hE ?_
      simp only [kbX4_remove_4, mX4_remove, kblk, kstp, kent, kpad, kget, kst1, kst2, kc2, cond_false, cond_true, kfv, kfit, kOkf, kputv, kputD, kputG, kcpy, kcat, kRR, kNN, true_and, and_true, if_true, if_false, if_pos, Nat.reduceAdd, Nat.reduceEqDiff, Nat.reduceLeDiff, Nat.reduceLT, reduceIte, Prod.mk.injEq, eq_self, false_and, and_false, reduceCtorEq, Nat.reduceSub, List.reverse_cons, List.reverse_nil, List.nil_append, List.cons_append, Option.toList_some, Option.toList_none, not_true_eq_false, not_false_eq_true, hlive, h1]
      refine ⟨fun h => absurd h (nI_ge hi (by omega)), fun _ => ?_⟩
      refine kwX4_remove_12 hC hE ?_
      simp only [kbX4_remove_12, mX4_remove, kblk, kstp, kent, kpad, kget, kst1, kst2, kc2, cond_false, cond_true, kfv, kfit, kOkf, kputv, kputD, kputG, kcpy, kcat, kRR, kNN, true_and, and_true, if_true, if_false, if_pos, Nat.reduceAdd, Nat.reduceEqDiff, Nat.reduceLeDiff, Nat.reduceLT, reduceIte, Prod.mk.injEq, eq_self, false_and, and_false, reduceCtorEq, Nat.reduceSub, List.reverse_cons, List.reverse_nil, List.nil_append, List.cons_append, Option.toList_some, Option.toList_none, not_true_eq_false, not_false_eq_true, hlive, hlive8, nI_clamp (show i < 2 ^ 31 by omega), hxv]
      refine ⟨vp_in_nI (by omega) (by omega), fun h => ?_, fun h => ?_⟩
      · have hx : xs[i] = n := (nI_eq (by omega) (by omega)).mp h
        have e := take_filter (n := n) hxi
        rw [if_pos hx, List.append_nil] at e
        refine kwX4_remove_37 hC hE ?_
        simp only [kbX4_remove_37, mX4_remove, kblk, kstp, kent, kpad, kget, kst1, kst2, kc2, cond_false, cond_true, kfv, kfit, kOkf, kputv, kputD, kputG, kcpy, kcat, kRR, kNN, true_and, and_true, if_true, if_false, if_pos, Nat.reduceAdd, Nat.reduceEqDiff, Nat.reduceLeDiff, Nat.reduceLT, reduceIte, Prod.mk.injEq, eq_self, false_and, and_false, reduceCtorEq, Nat.reduceSub, List.reverse_cons, List.reverse_nil, List.nil_append, List.cons_append, Option.toList_some, Option.toList_none, not_true_eq_false, not_false_eq_true, nI_1]
        have := ih (i + 1) D1 (by omega) h1 (by rw [e]; exact h2) (fun j x hj hx => h3 j x (by omega) hx) h4
        rw [e] at this
        exact this
      · have hx : ¬ xs[i] = n := fun z => h (by rw [z])
        have e := take_filter (n := n) hxi
        rw [if_neg hx] at e
        refine kwX4_remove_22 hC hE ?_
        simp only [kbX4_remove_22, mX4_remove, kblk, kstp, kent, kpad, kget, kst1, kst2, kc2, cond_false, cond_true, kfv, kfit, kOkf, kputv, kputD, kputG, kcpy, kcat, kRR, kNN, true_and, and_true, if_true, if_false, if_pos, Nat.reduceAdd, Nat.reduceEqDiff, Nat.reduceLeDiff, Nat.reduceLT, reduceIte, Prod.mk.injEq, eq_self, false_and, and_false, reduceCtorEq, Nat.reduceSub, List.reverse_cons, List.reverse_nil, List.nil_append, List.cons_append, Option.toList_some, Option.toList_none, not_true_eq_false, not_false_eq_true, hlive, hlive8, nI_clamp (show i < 2 ^ 31 by omega), hxv]
        refine ⟨vp_in_nI (by omega) (by omega), vp_in_nI (by omega) (by omega), ?_⟩
        rw [nI_clamp (show ((xs.take i).filter (fun a => decide (a ≠ n))).length < 2 ^ 31 by omega)]
        refine kwX4_remove_37 hC hE ?_
        simp only [kbX4_remove_37, mX4_remove, kblk, kstp, kent, kpad, kget, kst1, kst2, kc2, cond_false, cond_true, kfv, kfit, kOkf, kputv, kputD, kputG, kcpy, kcat, kRR, kNN, true_and, and_true, if_true, if_false, if_pos, Nat.reduceAdd, Nat.reduceEqDiff, Nat.reduceLeDiff, Nat.reduceLT, reduceIte, Prod.mk.injEq, eq_self, false_and, and_false, reduceCtorEq, Nat.reduceSub, List.reverse_cons, List.reverse_nil, List.nil_append, List.cons_append, Option.toList_some, Option.toList_none, not_true_eq_false, not_false_eq_true, nI_1]
        have := ih (i + 1) (kput D1 (8, L, k + 1) ((xs.take i).filter (fun a => decide (a ≠ n))).length (nI xs[i])) (by omega) (by simp [kput, h1]) (fun j y hy => ?_) (fun j x hj hx => ?_) (fun a ha1 ha2 => ?_)
        · rw [e, List.length_append] at this
          exact this
        · rw [e, List.getElem?_append] at hy
          by_cases hj : j < ((xs.take i).filter (fun a => decide (a ≠ n))).length
          · rw [if_pos hj] at hy
            have h5 := h2 j y hy
            have h6 : j ≠ ((xs.take i).filter (fun a => decide (a ≠ n))).length := by omega
            simp only [kput, h6, and_false, if_false]
            exact h5
          · rw [if_neg hj] at hy
            have h6 : j = ((xs.take i).filter (fun a => decide (a ≠ n))).length := by
              have := (List.getElem?_eq_some_iff.mp hy).1
              simp only [List.length_cons, List.length_nil] at this
              omega
            rw [h6, Nat.sub_self] at hy
            simp only [List.getElem?_cons_zero, Option.some.injEq] at hy
            simp only [kput, h6, and_self, if_true, hy]
        · have h6 : j ≠ ((xs.take i).filter (fun a => decide (a ≠ n))).length := by omega
          simp only [kput, h6, and_false, if_false]
          exact h3 j x (by omega) hx
        · rw [← h4 a ha1 ha2]
          funext j
          simp [kput, ha2]
  refine kwX4_remove_0 hC hE ?_
  simp only [kbX4_remove_0, mX4_remove, kblk, kstp, kent, kpad, kget, kst1, kst2, kc2, cond_false, cond_true, kfv, kfit, kOkf, kputv, kputD, kputG, kcpy, kcat, kRR, kNN, true_and, and_true, if_true, if_false, if_pos, Nat.reduceAdd, Nat.reduceEqDiff, Nat.reduceLeDiff, Nat.reduceLT, reduceIte, Prod.mk.injEq, eq_self, false_and, and_false, reduceCtorEq, Nat.reduceSub, List.reverse_cons, List.reverse_nil, List.nil_append, List.cons_append, Option.toList_some, Option.toList_none, not_true_eq_false, not_false_eq_true]
  exact loop xs.length 0 D (by omega) hr.1 (fun j y hy => by simp at hy) (fun j x _ hx => hr.2 j x hx) rowOff.refl

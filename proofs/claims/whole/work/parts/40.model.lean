/-! The reference: the same mathematical state, laid out its way. -/
def mTop (D : KI → Nat → Int32) (σ : KT) : Prop :=
  (D (7, 4, 0) 1 = tZ σ 38 0 ∧ D (7, 4, 0) 2 = nI (tC σ) ∧ D (7, 4, 0) 3 = nI (tL σ)) ∧ (∀ c, c < tC σ → D (8, 4, 0) c = tZ σ 0 c) ∧ (∀ l, l < 4 → D (8, 4, 1) l = tZ σ 21 l) ∧ ∀ t, t < 24 → D (8, 4, 2) t = tZ σ 50 t
def mSc (P : Nat) (D : KI → Nat → Int32) (σ : KT) : Prop :=
  D (6, P, 0) 0 = tZ σ 41 0 ∧ D (6, P, 0) 1 = tZ σ 39 0 ∧ D (6, P, 0) 2 = tZ σ 40 0 ∧ D (6, P, 0) 3 = nI (tG σ) ∧ D (6, P, 0) 4 = tZ σ 42 0 ∧ D (6, P, 0) 5 = tCold σ ∧ D (6, P, 0) 6 = tTaken σ ∧ D (6, P, 0) 7 = tZ σ 43 0 ∧ D (6, P, 0) 8 = nI (tS σ).length
def mGr (P : Nat) (D : KI → Nat → Int32) (σ : KT) (g : Nat) : Prop :=
  D (8, P, 15) g = tZ σ 10 g ∧ D (8, P, 16) g = tZ σ 11 g ∧ D (8, P, 17) g = tZ σ 12 g ∧ D (8, P, 19) g = tZ σ 15 g ∧ D (8, P, 20) g = tZ σ 16 g ∧ D (8, P, 21) g = tZ σ 17 g ∧ (tZ σ 13 g ≠ -1 → D (8, P, 18) g = tZ σ 13 g) ∧ (tZ σ 14 g ≠ -1 → D (8, P, 18) g = tZ σ 14 g)
def mArr (P : Nat) (D : KI → Nat → Int32) (σ : KT) : Prop :=
  (∀ i x, (tS σ)[i]? = some x → D (8, P, 9) i = nI x) ∧ (∀ c, c < tC σ → D (8, P, 10) c = tZ σ 1 c) ∧ (∀ c, c < 20 → D (8, P, 11) c = tZ σ 4 c) ∧ (∀ l, l < 4 → D (8, P, 12) l = tZ σ 22 l) ∧ (∀ l, l < 4 → D (8, P, 13) l = nI (tQ σ l).length) ∧ (∀ l, l < 4 → ∀ i x, (tQ σ l)[i]? = some x → D (8, P, 14) (91 * l + i) = nI x) ∧ ∀ g, g < tG σ → mGr P D σ g
def mSt (P : Nat) (D : KI → Nat → Int32) (σ : KT) : Prop := mSc P D σ ∧ mArr P D σ
theorem kN8_P {P k : Nat} (hP : P = 2 ∨ P = 3) : kN8 P k = if k < 12 then 20 else if k < 14 then 4 else if k = 14 then 364 else 91 := by
  rcases hP with rfl | rfl <;> simp [kN8]
theorem mLive {P : Nat} (hP : P = 2 ∨ P = 3) : kLive (6, P, 0) := ⟨hP, rfl⟩
theorem mLive8 {P k : Nat} (hP : P = 2 ∨ P = 3) (h1 : 9 ≤ k) (h2 : k ≤ 21) : kLive (8, P, k) := Or.inr (Or.inl ⟨hP, h1, h2⟩)
theorem mLive7 : kLive (7, 4, 0) := ⟨rfl, rfl⟩
theorem mLive4 {k : Nat} (h : k < 3) : kLive (8, 4, k) := Or.inr (Or.inr ⟨rfl, h⟩)
section MODEL
variable {D : KI → Nat → Int32} {G : KI → Nat → Int64} {P : Nat} {σ : KT}
theorem m_onRope (hP : P = 2 ∨ P = 3) (ht : mTop D σ) (hm : mSt P D σ) : SpQ mX6_onRope 0 0 [kR (some (6, P, 0))] (km D G) (fun v M' => v = some (kI (tOnRope σ)) ∧ M' = km D G) := by
  refine SpQ_of (own := 6) (ini := false) (by decide +kernel) rfl (by decide) (Nat.le_of_ble_eq_true rfl) ?_
  intro X hC hE hL0
  have hx := mLive hP
  have h7 := mLive7
  refine kwX6_onRope_0 hC hE ?_
  simp only [kbX6_onRope_0, mX6_onRope, kblk, kstp, kent, kpad, kget, kst1, kst2, kc2, cond_false, cond_true, kfv, kfit, kOkf, kputv, kputD, kputG, kcpy, kcat, kRR, kNN, true_and, and_true, if_true, if_false, if_pos, Nat.reduceAdd, Nat.reduceEqDiff, Nat.reduceLeDiff, Nat.reduceLT, reduceIte, Prod.mk.injEq, eq_self, false_and, and_false, reduceCtorEq, Nat.reduceSub, List.reverse_cons, List.reverse_nil, List.nil_append, List.cons_append, Option.toList_some, Option.toList_none, not_true_eq_false, not_false_eq_true, hx, h7, ht.1.2.1, hm.1.2.2.2.2.2.2.2.2]
  exact ⟨⟨rfl, rfl⟩, trivial, Nat.le_refl _, Nat.le_refl _⟩
theorem m_people (hP : P = 2 ∨ P = 3) (hm : mSt P D σ) (hb : kB σ) (p : Int32) : SpQ mX6_people 0 0 [kR (some (6, P, 0)), kI p] (km D G) (fun v M' => v = some (kI (tPeople σ p)) ∧ M' = km D G) := by
  refine SpQ_of (own := 6) (ini := false) (by decide +kernel) rfl (by decide) (Nat.le_of_ble_eq_true rfl) ?_
  intro X hC hE hL0
  have hx := mLive hP
  have h17 := mLive8 (k := 17) hP (by decide) (by decide)
  have h15 := mLive8 (k := 15) hP (by decide) (by decide)
  have n17 := kN8_P (k := 17) hP
  have n15 := kN8_P (k := 15) hP
  simp only [Nat.reduceLT, Nat.reduceEqDiff, if_false] at n17 n15
  have hb1 := hb.2.2.1
  have c7 := hm.1.2.2.2.1
  have loop : ∀ (m i : Nat), i + m = tG σ → KW X 4 [some (kR (some (6, P, 0))), some (kI p), some (kI (isum (fun g => if tZ σ 12 g = p then tZ σ 10 g else 0) i)), some (kI (nI i))] [] (km D G) 0 0 := by
    intro m
    induction m with
    | zero =>
      intro i him
      have hi : i = tG σ := by omega
      subst hi
      refine kwX6_people_4 hC hE ?_
      simp only [kbX6_people_4, mX6_people, kblk, kstp, kent, kpad, kget, kst1, kst2, kc2, cond_false, cond_true, kfv, kfit, kOkf, kputv, kputD, kputG, kcpy, kcat, kRR, kNN, true_and, and_true, if_true, if_false, if_pos, Nat.reduceAdd, Nat.reduceEqDiff, Nat.reduceLeDiff, Nat.reduceLT, reduceIte, Prod.mk.injEq, eq_self, false_and, and_false, reduceCtorEq, Nat.reduceSub, List.reverse_cons, List.reverse_nil, List.nil_append, List.cons_append, Option.toList_some, Option.toList_none, not_true_eq_false, not_false_eq_true, hx, c7]
      refine ⟨fun _ => ?_, fun h => absurd (nI_le (Nat.le_refl _) (by omega)) h⟩
      refine kwX6_people_41 hC hE ?_
      simp only [kbX6_people_41, mX6_people, kblk, kstp, kent, kpad, kget, kst1, kst2, kc2, cond_false, cond_true, kfv, kfit, kOkf, kputv, kputD, kputG, kcpy, kcat, kRR, kNN, true_and, and_true, if_true, if_false, if_pos, Nat.reduceAdd, Nat.reduceEqDiff, Nat.reduceLeDiff, Nat.reduceLT, reduceIte, Prod.mk.injEq, eq_self, false_and, and_false, reduceCtorEq, Nat.reduceSub, List.reverse_cons, List.reverse_nil, List.nil_append, List.cons_append, Option.toList_some, Option.toList_none, not_true_eq_false, not_false_eq_true]
      exact ⟨⟨rfl, rfl⟩, trivial, Nat.le_refl _, Nat.le_refl _⟩
    | succ m ih =>
      intro i him
      have hi : i < tG σ := by omega
      have hst := (hm.2.2.2.2.2.2.2 i hi).2.2.1
      have hsz := (hm.2.2.2.2.2.2.2 i hi).1
      have fin : ∀ z : Int32, z = (if tZ σ 12 i = p then tZ σ 10 i else 0) → KW X 33 [some (kR (some (6, P, 0))), some (kI p), some (kI (isum (fun g => if tZ σ 12 g = p then tZ σ 10 g else 0) i)), some (kI (nI i))] [kI z, kI (isum (fun g => if tZ σ 12 g = p then tZ σ 10 g else 0) i)] (km D G) 0 0 := by
        intro z hz
        subst hz
        refine kwX6_people_33 hC hE ?_
        simp only [kbX6_people_33, mX6_people, kblk, kstp, kent, kpad, kget, kst1, kst2, kc2, cond_false, cond_true, kfv, kfit, kOkf, kputv, kputD, kputG, kcpy, kcat, kRR, kNN, true_and, and_true, if_true, if_false, if_pos, Nat.reduceAdd, Nat.reduceEqDiff, Nat.reduceLeDiff, Nat.reduceLT, reduceIte, Prod.mk.injEq, eq_self, false_and, and_false, reduceCtorEq, Nat.reduceSub, List.reverse_cons, List.reverse_nil, List.nil_append, List.cons_append, Option.toList_some, Option.toList_none, not_true_eq_false, not_false_eq_true, nI_1]
        exact ih (i + 1) (by omega)
      refine kwX6_people_4 hC hE ?_
      simp only [kbX6_people_4, mX6_people, kblk, kstp, kent, kpad, kget, kst1, kst2, kc2, cond_false, cond_true, kfv, kfit, kOkf, kputv, kputD, kputG, kcpy, kcat, kRR, kNN, true_and, and_true, if_true, if_false, if_pos, Nat.reduceAdd, Nat.reduceEqDiff, Nat.reduceLeDiff, Nat.reduceLT, reduceIte, Prod.mk.injEq, eq_self, false_and, and_false, reduceCtorEq, Nat.reduceSub, List.reverse_cons, List.reverse_nil, List.nil_append, List.cons_append, Option.toList_some, Option.toList_none, not_true_eq_false, not_false_eq_true, hx, c7]
      refine ⟨fun h => absurd h (nI_ge hi (by omega)), fun _ => ?_⟩
      refine kwX6_people_12 hC hE ?_
      simp only [kbX6_people_12, mX6_people, kblk, kstp, kent, kpad, kget, kst1, kst2, kc2, cond_false, cond_true, kfv, kfit, kOkf, kputv, kputD, kputG, kcpy, kcat, kRR, kNN, true_and, and_true, if_true, if_false, if_pos, Nat.reduceAdd, Nat.reduceEqDiff, Nat.reduceLeDiff, Nat.reduceLT, reduceIte, Prod.mk.injEq, eq_self, false_and, and_false, reduceCtorEq, Nat.reduceSub, List.reverse_cons, List.reverse_nil, List.nil_append, List.cons_append, Option.toList_some, Option.toList_none, not_true_eq_false, not_false_eq_true, hx, h17, n17, nI_clamp (show i < 2 ^ 31 by omega), hst]
      refine ⟨vp_in_nI (show i < 91 by omega) (by omega), fun h => ?_, fun h => ?_⟩
      · refine kwX6_people_32 hC hE ?_
        simp only [kbX6_people_32, mX6_people, kblk, kstp, kent, kpad, kget, kst1, kst2, kc2, cond_false, cond_true, kfv, kfit, kOkf, kputv, kputD, kputG, kcpy, kcat, kRR, kNN, true_and, and_true, if_true, if_false, if_pos, Nat.reduceAdd, Nat.reduceEqDiff, Nat.reduceLeDiff, Nat.reduceLT, reduceIte, Prod.mk.injEq, eq_self, false_and, and_false, reduceCtorEq, Nat.reduceSub, List.reverse_cons, List.reverse_nil, List.nil_append, List.cons_append, Option.toList_some, Option.toList_none, not_true_eq_false, not_false_eq_true]
        exact fin 0 (if_neg h).symm
      · refine kwX6_people_23 hC hE ?_
        simp only [kbX6_people_23, mX6_people, kblk, kstp, kent, kpad, kget, kst1, kst2, kc2, cond_false, cond_true, kfv, kfit, kOkf, kputv, kputD, kputG, kcpy, kcat, kRR, kNN, true_and, and_true, if_true, if_false, if_pos, Nat.reduceAdd, Nat.reduceEqDiff, Nat.reduceLeDiff, Nat.reduceLT, reduceIte, Prod.mk.injEq, eq_self, false_and, and_false, reduceCtorEq, Nat.reduceSub, List.reverse_cons, List.reverse_nil, List.nil_append, List.cons_append, Option.toList_some, Option.toList_none, not_true_eq_false, not_false_eq_true, hx, h15, n15, nI_clamp (show i < 2 ^ 31 by omega), hsz]
        exact ⟨vp_in_nI (show i < 91 by omega) (by omega), fin _ (if_pos h).symm⟩
  refine kwX6_people_0 hC hE ?_
  simp only [kbX6_people_0, mX6_people, kblk, kstp, kent, kpad, kget, kst1, kst2, kc2, cond_false, cond_true, kfv, kfit, kOkf, kputv, kputD, kputG, kcpy, kcat, kRR, kNN, true_and, and_true, if_true, if_false, if_pos, Nat.reduceAdd, Nat.reduceEqDiff, Nat.reduceLeDiff, Nat.reduceLT, reduceIte, Prod.mk.injEq, eq_self, false_and, and_false, reduceCtorEq, Nat.reduceSub, List.reverse_cons, List.reverse_nil, List.nil_append, List.cons_append, Option.toList_some, Option.toList_none, not_true_eq_false, not_false_eq_true]
  exact loop (tG σ) 0 (by omega)
theorem m_find (hP : P = 2 ∨ P = 3) (ht : mTop D σ) (hm : mSt P D σ) (hb : kB σ) (p : Int32) : SpQ mX6_find 0 0 [kR (some (6, P, 0)), kI p] (km D G) (fun v M' => v = some (kI (tChairAt σ p)) ∧ M' = km D G) := by
  refine SpQ_of (own := 6) (ini := false) (by decide +kernel) rfl (by decide) (Nat.le_of_ble_eq_true rfl) ?_
  intro X hC hE hL0
  have hx := mLive hP
  have h7 := mLive7
  have h10 := mLive8 (k := 10) hP (by decide) (by decide)
  have n10 := kN8_P (k := 10) hP
  simp only [Nat.reduceLT, if_true] at n10
  have hb1 := hb.1
  have c5 := ht.1.2.1
  have loop : ∀ (m i : Nat), i + m = tC σ → tAt σ p i m = tChairAt σ p → KW X 2 [some (kR (some (6, P, 0))), some (kI p), some (kI (nI i))] [] (km D G) 0 0 := by
    intro m
    induction m with
    | zero =>
      intro i him he
      have hi : i = tC σ := by omega
      subst hi
      refine kwX6_find_2 hC hE ?_
      simp only [kbX6_find_2, mX6_find, kblk, kstp, kent, kpad, kget, kst1, kst2, kc2, cond_false, cond_true, kfv, kfit, kOkf, kputv, kputD, kputG, kcpy, kcat, kRR, kNN, true_and, and_true, if_true, if_false, if_pos, Nat.reduceAdd, Nat.reduceEqDiff, Nat.reduceLeDiff, Nat.reduceLT, reduceIte, Prod.mk.injEq, eq_self, false_and, and_false, reduceCtorEq, Nat.reduceSub, List.reverse_cons, List.reverse_nil, List.nil_append, List.cons_append, Option.toList_some, Option.toList_none, not_true_eq_false, not_false_eq_true, hx, h7, c5]
      refine ⟨fun _ => ?_, fun h => absurd (nI_le (Nat.le_refl _) (by omega)) h⟩
      refine kwX6_find_31 hC hE ?_
      simp only [kbX6_find_31, mX6_find, kblk, kstp, kent, kpad, kget, kst1, kst2, kc2, cond_false, cond_true, kfv, kfit, kOkf, kputv, kputD, kputG, kcpy, kcat, kRR, kNN, true_and, and_true, if_true, if_false, if_pos, Nat.reduceAdd, Nat.reduceEqDiff, Nat.reduceLeDiff, Nat.reduceLT, reduceIte, Prod.mk.injEq, eq_self, false_and, and_false, reduceCtorEq, Nat.reduceSub, List.reverse_cons, List.reverse_nil, List.nil_append, List.cons_append, Option.toList_some, Option.toList_none, not_true_eq_false, not_false_eq_true]
      exact ⟨⟨by rw [← he]; rfl, rfl⟩, trivial, Nat.le_refl _, Nat.le_refl _⟩
    | succ m ih =>
      intro i him he
      have hi : i < tC σ := by omega
      have hpl := hm.2.2.1 i hi
      refine kwX6_find_2 hC hE ?_
      simp only [kbX6_find_2, mX6_find, kblk, kstp, kent, kpad, kget, kst1, kst2, kc2, cond_false, cond_true, kfv, kfit, kOkf, kputv, kputD, kputG, kcpy, kcat, kRR, kNN, true_and, and_true, if_true, if_false, if_pos, Nat.reduceAdd, Nat.reduceEqDiff, Nat.reduceLeDiff, Nat.reduceLT, reduceIte, Prod.mk.injEq, eq_self, false_and, and_false, reduceCtorEq, Nat.reduceSub, List.reverse_cons, List.reverse_nil, List.nil_append, List.cons_append, Option.toList_some, Option.toList_none, not_true_eq_false, not_false_eq_true, hx, h7, c5]
      refine ⟨fun h => absurd h (nI_ge hi (by omega)), fun _ => ?_⟩
      refine kwX6_find_13 hC hE ?_
      simp only [kbX6_find_13, mX6_find, kblk, kstp, kent, kpad, kget, kst1, kst2, kc2, cond_false, cond_true, kfv, kfit, kOkf, kputv, kputD, kputG, kcpy, kcat, kRR, kNN, true_and, and_true, if_true, if_false, if_pos, Nat.reduceAdd, Nat.reduceEqDiff, Nat.reduceLeDiff, Nat.reduceLT, reduceIte, Prod.mk.injEq, eq_self, false_and, and_false, reduceCtorEq, Nat.reduceSub, List.reverse_cons, List.reverse_nil, List.nil_append, List.cons_append, Option.toList_some, Option.toList_none, not_true_eq_false, not_false_eq_true, hx, h10, n10, nI_clamp (show i < 2 ^ 31 by omega), hpl]
      refine ⟨vp_in_nI (show i < 20 by omega) (by omega), fun h => ?_, fun h => ?_⟩
      · refine kwX6_find_25 hC hE ?_
        simp only [kbX6_find_25, mX6_find, kblk, kstp, kent, kpad, kget, kst1, kst2, kc2, cond_false, cond_true, kfv, kfit, kOkf, kputv, kputD, kputG, kcpy, kcat, kRR, kNN, true_and, and_true, if_true, if_false, if_pos, Nat.reduceAdd, Nat.reduceEqDiff, Nat.reduceLeDiff, Nat.reduceLT, reduceIte, Prod.mk.injEq, eq_self, false_and, and_false, reduceCtorEq, Nat.reduceSub, List.reverse_cons, List.reverse_nil, List.nil_append, List.cons_append, Option.toList_some, Option.toList_none, not_true_eq_false, not_false_eq_true, nI_1]
        refine ih (i + 1) (by omega) ?_
        rw [← he]
        simp only [tAt]
        rw [if_neg h]
      · refine kwX6_find_23 hC hE ?_
        simp only [kbX6_find_23, mX6_find, kblk, kstp, kent, kpad, kget, kst1, kst2, kc2, cond_false, cond_true, kfv, kfit, kOkf, kputv, kputD, kputG, kcpy, kcat, kRR, kNN, true_and, and_true, if_true, if_false, if_pos, Nat.reduceAdd, Nat.reduceEqDiff, Nat.reduceLeDiff, Nat.reduceLT, reduceIte, Prod.mk.injEq, eq_self, false_and, and_false, reduceCtorEq, Nat.reduceSub, List.reverse_cons, List.reverse_nil, List.nil_append, List.cons_append, Option.toList_some, Option.toList_none, not_true_eq_false, not_false_eq_true]
        refine ⟨⟨?_, rfl⟩, trivial, Nat.le_refl _, Nat.le_refl _⟩
        rw [← he]
        simp only [tAt]
        rw [if_pos h]
  refine kwX6_find_0 hC hE ?_
  simp only [kbX6_find_0, mX6_find, kblk, kstp, kent, kpad, kget, kst1, kst2, kc2, cond_false, cond_true, kfv, kfit, kOkf, kputv, kputD, kputG, kcpy, kcat, kRR, kNN, true_and, and_true, if_true, if_false, if_pos, Nat.reduceAdd, Nat.reduceEqDiff, Nat.reduceLeDiff, Nat.reduceLT, reduceIte, Prod.mk.injEq, eq_self, false_and, and_false, reduceCtorEq, Nat.reduceSub, List.reverse_cons, List.reverse_nil, List.nil_append, List.cons_append, Option.toList_some, Option.toList_none, not_true_eq_false, not_false_eq_true]
  exact loop (tC σ) 0 (by omega) rfl
end MODEL

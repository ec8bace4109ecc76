/-! The reference's public methods: frame, guards. -/
def mPub (D : KI → Nat → Int32) (G : KI → Nat → Int64) (σ' : KT) (k : Int32) (M' : KM) : Prop := ∃ D', M' = km D' G ∧ D' (7, 4, 0) 0 = k ∧ mTop D' σ' ∧ mSt 2 D' σ' ∧ ∀ i : KI, (i.2.1 < 2 ∨ 4 < i.2.1) → D' i = D i
theorem mTop.congr {D : KI → Nat → Int32} {σ σ' : KT} (h : mTop D σ) (hC : tC σ' = tC σ) (hL : tL σ' = tL σ) (h0 : ∀ c, tZ σ' 0 c = tZ σ 0 c) (h21 : ∀ l, tZ σ' 21 l = tZ σ 21 l) (h50 : ∀ t, tZ σ' 50 t = tZ σ 50 t) (h38 : tZ σ' 38 0 = tZ σ 38 0) : mTop D σ' := by
  simp only [mTop, hC, hL, h0, h21, h50, h38]
  exact h
section M7
variable {D : KI → Nat → Int32} {G : KI → Nat → Int64} {P : Nat} {σ : KT}
theorem mSt_off {D' : KI → Nat → Int32} (h : mSt P D σ) (h6 : D' (6, P, 0) = D (6, P, 0)) (h8 : ∀ k, D' (8, P, k) = D (8, P, k)) : mSt P D' σ := by
  simp only [mSt, mSc, mArr, mGr, h6, h8] at h ⊢
  exact h
theorem mTop_thr (h : mTop D σ) (v : Int32) : mTop (kput D (7, 4, 0) 0 v) σ := by
  have e : ∀ j, j ≠ 0 → kput D (7, 4, 0) 0 v (7, 4, 0) j = D (7, 4, 0) j := fun j hj => by simp [kput, hj]
  have e8 : ∀ k j, kput D (7, 4, 0) 0 v (8, 4, k) j = D (8, 4, k) j := fun k j => by simp [kput]
  simp only [mTop, e8]
  rw [e 1 (by decide), e 2 (by decide), e 3 (by decide)]
  exact h
theorem mSt_7 (hP : P = 2 ∨ P = 3) (h : mSt P D σ) (j : Nat) (v : Int32) : mSt P (kput D (7, 4, 0) j v) σ :=
  mSt_off h (by funext a; simp [kput]) (fun k => by funext a; simp [kput])
theorem mSt_84 (hP : P = 2 ∨ P = 3) (h : mSt P D σ) (k j : Nat) (v : Int32) : mSt P (kput D (8, 4, k) j v) σ :=
  mSt_off h (by funext a; simp [kput]) (fun k => by
    have : P ≠ 4 := by omega
    funext a; simp [kput, this])
theorem off_7 {j : Nat} {v : Int32} : ∀ i : KI, (i.2.1 < 2 ∨ 4 < i.2.1) → kput D (7, 4, 0) j v i = D i := fun i hi => by
  have : i ≠ (7, 4, 0) := fun z => by subst z; rcases hi with h | h <;> revert h <;> decide
  funext a
  simp [kput, this]
theorem mPub.of {D' : KI → Nat → Int32} {σ' : KT} {k : Int32} (h1 : D' (7, 4, 0) 0 = k) (h2 : mTop D' σ') (h3 : mSt 2 D' σ') (h4 : ∀ i : KI, (i.2.1 < 2 ∨ 4 < i.2.1) → D' i = D i) : mPub D G σ' k (km D' G) := ⟨D', rfl, h1, h2, h3, h4⟩
theorem mPub_no (ht : mTop D σ) (hm : mSt 2 D σ) (k : Int32) : mPub D G σ k (km (kput (kput D (7, 4, 0) 0 0) (7, 4, 0) 0 k) G) :=
  mPub.of (by simp [kput]) (mTop_thr (mTop_thr ht 0) k) (mSt_7 (Or.inl rfl) (mSt_7 (Or.inl rfl) hm 0 0) 0 k) (fun i hi => (off_7 i hi).trans (off_7 i hi))
theorem mPub_0 (ht : mTop D σ) (hm : mSt 2 D σ) : mPub D G σ 0 (km (kput D (7, 4, 0) 0 0) G) :=
  mPub.of (by simp [kput]) (mTop_thr ht 0) (mSt_7 (Or.inl rfl) hm 0 0) off_7
/-- after a change of a state's part alone -/
theorem mPub_to (hP : P = 2 ∨ P = 3) (ht : mTop D σ) {σ' : KT} (hs : kSame σ' σ) {D' : KI → Nat → Int32} (h3 : mSt 2 D' σ') (ho : kOff P D' (kput D (7, 4, 0) 0 0)) : mPub D G σ' 0 (km D' G) := by
  have h7 : D' (7, 4, 0) = kput D (7, 4, 0) 0 0 (7, 4, 0) := ho _ (by rcases hP with rfl | rfl <;> decide)
  refine mPub.of (by rw [h7]; simp [kput]) ((mTop_thr ht 0).off hP ho hs) h3 (fun i hi => (ho i (by omega)).trans (off_7 i hi))
theorem m7_no (k : Int32) : SpQ mX7_no 0 0 [kR (some (7, 4, 0)), kI k] (km D G) (fun v M' => v = some (kI 0) ∧ M' = km (kput D (7, 4, 0) 0 k) G) := by
  refine SpQ_of (own := 7) (ini := false) (by decide +kernel) rfl (by decide) (Nat.le_of_ble_eq_true rfl) ?_
  intro X hC hE hL0
  have h7 := mLive7
  refine kwX7_no_0 hC hE ?_
  simp only [kbX7_no_0, mX7_no, kblk, kstp, kent, kpad, kget, kst1, kst2, kc2, cond_false, cond_true, kfv, kfit, kOkf, kputv, kputD, kputG, kcpy, kcat, kRR, kNN, true_and, and_true, if_true, if_false, if_pos, Nat.reduceAdd, Nat.reduceEqDiff, Nat.reduceLeDiff, Nat.reduceLT, reduceIte, Prod.mk.injEq, eq_self, false_and, and_false, reduceCtorEq, Nat.reduceSub, List.reverse_cons, List.reverse_nil, List.nil_append, List.cons_append, Option.toList_some, Option.toList_none, not_true_eq_false, not_false_eq_true, h7]
  exact ⟨⟨rfl, rfl⟩, trivial, Nat.le_refl _, Nat.le_refl _⟩
theorem k01 (c : Prop) [Decidable c] : (if c then (1 : Int32) else 0) = 0 ∨ (if c then (1 : Int32) else 0) = 1 := by
  by_cases h : c
  · rw [if_pos h]; exact Or.inr rfl
  · rw [if_neg h]; exact Or.inl rfl
theorem m7_isIn (M : KM) (x y z : Int32) : SpQ mX7_isIn 0 0 [kI x, kI y, kI z] M (fun v M' => v = some (kI (if y ≤ x ∧ x ≤ z then 1 else 0)) ∧ M' = M) := by
  refine SpQ_of (own := 7) (ini := false) (by decide +kernel) rfl (by decide) (Nat.le_of_ble_eq_true rfl) ?_
  intro X hC hE hL0
  have no : ¬ (y ≤ x ∧ x ≤ z) → KW X 14 [some (kI x), some (kI y), some (kI z)] [] M 0 0 := by
    intro h
    refine kwX7_isIn_14 hC hE ?_
    simp only [kbX7_isIn_14, mX7_isIn, kblk, kstp, kent, kpad, kget, kst1, kst2, kc2, cond_false, cond_true, kfv, kfit, kOkf, kputv, kputD, kputG, kcpy, kcat, kRR, kNN, true_and, and_true, if_true, if_false, if_pos, Nat.reduceAdd, Nat.reduceEqDiff, Nat.reduceLeDiff, Nat.reduceLT, reduceIte, Prod.mk.injEq, eq_self, false_and, and_false, reduceCtorEq, Nat.reduceSub, List.reverse_cons, List.reverse_nil, List.nil_append, List.cons_append, Option.toList_some, Option.toList_none, not_true_eq_false, not_false_eq_true]
    refine kwX7_isIn_15 hC hE ?_
    simp only [kbX7_isIn_15, mX7_isIn, kblk, kstp, kent, kpad, kget, kst1, kst2, kc2, cond_false, cond_true, kfv, kfit, kOkf, kputv, kputD, kputG, kcpy, kcat, kRR, kNN, true_and, and_true, if_true, if_false, if_pos, Nat.reduceAdd, Nat.reduceEqDiff, Nat.reduceLeDiff, Nat.reduceLT, reduceIte, Prod.mk.injEq, eq_self, false_and, and_false, reduceCtorEq, Nat.reduceSub, List.reverse_cons, List.reverse_nil, List.nil_append, List.cons_append, Option.toList_some, Option.toList_none, not_true_eq_false, not_false_eq_true]
    exact ⟨⟨by rw [if_neg h], rfl⟩, Or.inl rfl, Nat.le_refl _, Nat.le_refl _⟩
  refine kwX7_isIn_0 hC hE ?_
  simp only [kbX7_isIn_0, mX7_isIn, kblk, kstp, kent, kpad, kget, kst1, kst2, kc2, cond_false, cond_true, kfv, kfit, kOkf, kputv, kputD, kputG, kcpy, kcat, kRR, kNN, true_and, and_true, if_true, if_false, if_pos, Nat.reduceAdd, Nat.reduceEqDiff, Nat.reduceLeDiff, Nat.reduceLT, reduceIte, Prod.mk.injEq, eq_self, false_and, and_false, reduceCtorEq, Nat.reduceSub, List.reverse_cons, List.reverse_nil, List.nil_append, List.cons_append, Option.toList_some, Option.toList_none, not_true_eq_false, not_false_eq_true]
  refine ⟨fun h => no (fun c => absurd c.1 (Int32.not_le.mpr h)), fun h => ?_⟩
  refine kwX7_isIn_5 hC hE ?_
  simp only [kbX7_isIn_5, mX7_isIn, kblk, kstp, kent, kpad, kget, kst1, kst2, kc2, cond_false, cond_true, kfv, kfit, kOkf, kputv, kputD, kputG, kcpy, kcat, kRR, kNN, true_and, and_true, if_true, if_false, if_pos, Nat.reduceAdd, Nat.reduceEqDiff, Nat.reduceLeDiff, Nat.reduceLT, reduceIte, Prod.mk.injEq, eq_self, false_and, and_false, reduceCtorEq, Nat.reduceSub, List.reverse_cons, List.reverse_nil, List.nil_append, List.cons_append, Option.toList_some, Option.toList_none, not_true_eq_false, not_false_eq_true]
  refine ⟨fun h2 => no (fun c => absurd c.2 (Int32.not_le.mpr h2)), fun h2 => ?_⟩
  refine kwX7_isIn_10 hC hE ?_
  simp only [kbX7_isIn_10, mX7_isIn, kblk, kstp, kent, kpad, kget, kst1, kst2, kc2, cond_false, cond_true, kfv, kfit, kOkf, kputv, kputD, kputG, kcpy, kcat, kRR, kNN, true_and, and_true, if_true, if_false, if_pos, Nat.reduceAdd, Nat.reduceEqDiff, Nat.reduceLeDiff, Nat.reduceLT, reduceIte, Prod.mk.injEq, eq_self, false_and, and_false, reduceCtorEq, Nat.reduceSub, List.reverse_cons, List.reverse_nil, List.nil_append, List.cons_append, Option.toList_some, Option.toList_none, not_true_eq_false, not_false_eq_true]
  refine kwX7_isIn_15 hC hE ?_
  simp only [kbX7_isIn_15, mX7_isIn, kblk, kstp, kent, kpad, kget, kst1, kst2, kc2, cond_false, cond_true, kfv, kfit, kOkf, kputv, kputD, kputG, kcpy, kcat, kRR, kNN, true_and, and_true, if_true, if_false, if_pos, Nat.reduceAdd, Nat.reduceEqDiff, Nat.reduceLeDiff, Nat.reduceLT, reduceIte, Prod.mk.injEq, eq_self, false_and, and_false, reduceCtorEq, Nat.reduceSub, List.reverse_cons, List.reverse_nil, List.nil_append, List.cons_append, Option.toList_some, Option.toList_none, not_true_eq_false, not_false_eq_true]
  exact ⟨⟨by rw [if_pos ⟨Int32.not_lt.mp h, Int32.not_lt.mp h2⟩], rfl⟩, Or.inr rfl, Nat.le_refl _, Nat.le_refl _⟩
theorem le_pred {x : Int32} {n : Nat} (hn : n < 2 ^ 31) : x ≤ nI n - 1 ↔ x < nI n := by
  cases n with
  | zero =>
    have : nI 0 - 1 = -1 := by decide
    rw [this, Int32.le_iff_toInt_le, Int32.lt_iff_toInt_lt, nI_toInt (by decide), show (-1 : Int32).toInt = -1 from rfl]
    omega
  | succ n =>
    have : nI (n + 1) - 1 = nI n := nI_subn (b := 1) (by omega)
    rw [this, Int32.le_iff_toInt_le, Int32.lt_iff_toInt_lt, nI_toInt hn, nI_toInt (by omega)]
    omega
theorem if_pred {x : Int32} {n : Nat} (hn : n < 2 ^ 31) : (if 0 ≤ x ∧ x ≤ nI n - 1 then (1 : Int32) else 0) = if 0 ≤ x ∧ x < nI n then 1 else 0 := by
  by_cases h : 0 ≤ x ∧ x < nI n
  · rw [if_pos h, if_pos ⟨h.1, (le_pred hn).mpr h.2⟩]
  · rw [if_neg h, if_neg (fun z => h ⟨z.1, (le_pred hn).mp z.2⟩)]
theorem m7_isLane (ht : mTop D σ) (hL : tL σ ≤ 4) (x : Int32) : SpQ mX7_isLane 0 0 [kR (some (7, 4, 0)), kI x] (km D G) (fun v M' => v = some (kI (if 0 ≤ x ∧ x < nI (tL σ) then 1 else 0)) ∧ M' = km D G) := by
  refine SpQ_of (own := 7) (ini := false) (by decide +kernel) rfl (by decide) (Nat.le_of_ble_eq_true rfl) ?_
  intro X hC hE hL0
  have h7 := mLive7
  have q3 := ht.1.2.2
  refine kwX7_isLane_0 hC hE ?_
  simp only [kbX7_isLane_0, mX7_isLane, kblk, kstp, kent, kpad, kget, kst1, kst2, kc2, cond_false, cond_true, kfv, kfit, kOkf, kputv, kputD, kputG, kcpy, kcat, kRR, kNN, true_and, and_true, if_true, if_false, if_pos, Nat.reduceAdd, Nat.reduceEqDiff, Nat.reduceLeDiff, Nat.reduceLT, reduceIte, Prod.mk.injEq, eq_self, false_and, and_false, reduceCtorEq, Nat.reduceSub, List.reverse_cons, List.reverse_nil, List.nil_append, List.cons_append, Option.toList_some, Option.toList_none, not_true_eq_false, not_false_eq_true, h7, q3]
  refine KW_callS hC (by decide +kernel) kl7_41 (by decide) ((m7_isIn (km D G) x 0 (nI (tL σ) - 1))) rfl rfl (by simp [kOkL, kOk, h7]) (by simp [kOkS]) (Nat.le_of_ble_eq_true rfl) (Nat.le_of_ble_eq_true rfl) (Nat.le_of_ble_eq_true rfl) ?_
  rintro v M' ⟨rfl, rfl⟩
  refine kwX7_isLane_11 hC hE ?_
  simp only [kbX7_isLane_11, mX7_isLane, kblk, kstp, kent, kpad, kget, kst1, kst2, kc2, cond_false, cond_true, kfv, kfit, kOkf, kputv, kputD, kputG, kcpy, kcat, kRR, kNN, true_and, and_true, if_true, if_false, if_pos, Nat.reduceAdd, Nat.reduceEqDiff, Nat.reduceLeDiff, Nat.reduceLT, reduceIte, Prod.mk.injEq, eq_self, false_and, and_false, reduceCtorEq, Nat.reduceSub, List.reverse_cons, List.reverse_nil, List.nil_append, List.cons_append, Option.toList_some, Option.toList_none, not_true_eq_false, not_false_eq_true]
  rw [if_pred (by omega)]
  exact ⟨⟨rfl, rfl⟩, k01 _, Nat.le_refl _, Nat.le_refl _⟩
theorem m7_isGroup (hm : mSt 2 D σ) (hG : tG σ ≤ 91) (x : Int32) : SpQ mX7_isGroup 0 0 [kR (some (7, 4, 0)), kI x] (km D G) (fun v M' => v = some (kI (if 0 ≤ x ∧ x < nI (tG σ) then 1 else 0)) ∧ M' = km D G) := by
  refine SpQ_of (own := 7) (ini := false) (by decide +kernel) rfl (by decide) (Nat.le_of_ble_eq_true rfl) ?_
  intro X hC hE hL0
  have h7 := mLive7
  have hx := mLive (P := 2) (Or.inl rfl)
  have q3 := hm.1.2.2.2.1
  refine kwX7_isGroup_0 hC hE ?_
  simp only [kbX7_isGroup_0, mX7_isGroup, kblk, kstp, kent, kpad, kget, kst1, kst2, kc2, cond_false, cond_true, kfv, kfit, kOkf, kputv, kputD, kputG, kcpy, kcat, kRR, kNN, true_and, and_true, if_true, if_false, if_pos, Nat.reduceAdd, Nat.reduceEqDiff, Nat.reduceLeDiff, Nat.reduceLT, reduceIte, Prod.mk.injEq, eq_self, false_and, and_false, reduceCtorEq, Nat.reduceSub, List.reverse_cons, List.reverse_nil, List.nil_append, List.cons_append, Option.toList_some, Option.toList_none, not_true_eq_false, not_false_eq_true, h7, hx, q3]
  refine KW_callS hC (by decide +kernel) kl7_41 (by decide) ((m7_isIn (km D G) x 0 (nI (tG σ) - 1))) rfl rfl (by simp [kOkL, kOk, h7]) (by simp [kOkS]) (Nat.le_of_ble_eq_true rfl) (Nat.le_of_ble_eq_true rfl) (Nat.le_of_ble_eq_true rfl) ?_
  rintro v M' ⟨rfl, rfl⟩
  refine kwX7_isGroup_14 hC hE ?_
  simp only [kbX7_isGroup_14, mX7_isGroup, kblk, kstp, kent, kpad, kget, kst1, kst2, kc2, cond_false, cond_true, kfv, kfit, kOkf, kputv, kputD, kputG, kcpy, kcat, kRR, kNN, true_and, and_true, if_true, if_false, if_pos, Nat.reduceAdd, Nat.reduceEqDiff, Nat.reduceLeDiff, Nat.reduceLT, reduceIte, Prod.mk.injEq, eq_self, false_and, and_false, reduceCtorEq, Nat.reduceSub, List.reverse_cons, List.reverse_nil, List.nil_append, List.cons_append, Option.toList_some, Option.toList_none, not_true_eq_false, not_false_eq_true]
  rw [if_pred (by omega)]
  exact ⟨⟨rfl, rfl⟩, k01 _, Nat.le_refl _, Nat.le_refl _⟩
theorem m7_want (ht : mTop D σ) (hm : mSt 2 D σ) (n : Int32) : SpQ mX7_want 0 0 [kR (some (7, 4, 0)), kI n] (km D G) (fun v M' => ((0 ≤ n ∧ n ≤ 20) ∧ v = some (kI (tZ σ 39 0)) ∧ mPub D G (tset σ 39 0 n) 0 M') ∨ (¬ (0 ≤ n ∧ n ≤ 20) ∧ v = some (kI 0) ∧ mPub D G σ 1 M')) := by
  refine SpQ_of (own := 7) (ini := false) (by decide +kernel) rfl (by decide) (Nat.le_of_ble_eq_true rfl) ?_
  intro X hC hE hL0
  have h7 := mLive7
  have hx := mLive (P := 2) (Or.inl rfl)
  have q1 : kput D (7, 4, 0) 0 0 (6, 2, 0) 1 = tZ σ 39 0 := (mSt_7 (Or.inl rfl) hm 0 0).1.2.1
  refine kwX7_want_0 hC hE ?_
  simp only [kbX7_want_0, mX7_want, kblk, kstp, kent, kpad, kget, kst1, kst2, kc2, cond_false, cond_true, kfv, kfit, kOkf, kputv, kputD, kputG, kcpy, kcat, kRR, kNN, true_and, and_true, if_true, if_false, if_pos, Nat.reduceAdd, Nat.reduceEqDiff, Nat.reduceLeDiff, Nat.reduceLT, reduceIte, Prod.mk.injEq, eq_self, false_and, and_false, reduceCtorEq, Nat.reduceSub, List.reverse_cons, List.reverse_nil, List.nil_append, List.cons_append, Option.toList_some, Option.toList_none, not_true_eq_false, not_false_eq_true, h7]
  refine KW_callS hC (by decide +kernel) kl7_41 (by decide) ((m7_isIn (km (kput D (7, 4, 0) 0 0) G) n 0 20)) rfl rfl (by simp [kOkL, kOk, h7]) (by simp [kOkS]) (Nat.le_of_ble_eq_true rfl) (Nat.le_of_ble_eq_true rfl) (Nat.le_of_ble_eq_true rfl) ?_
  rintro v M' ⟨rfl, rfl⟩
  refine kwX7_want_12 hC hE ?_
  simp only [kbX7_want_12, mX7_want, kblk, kstp, kent, kpad, kget, kst1, kst2, kc2, cond_false, cond_true, kfv, kfit, kOkf, kputv, kputD, kputG, kcpy, kcat, kRR, kNN, true_and, and_true, if_true, if_false, if_pos, Nat.reduceAdd, Nat.reduceEqDiff, Nat.reduceLeDiff, Nat.reduceLT, reduceIte, Prod.mk.injEq, eq_self, false_and, and_false, reduceCtorEq, Nat.reduceSub, List.reverse_cons, List.reverse_nil, List.nil_append, List.cons_append, Option.toList_some, Option.toList_none, not_true_eq_false, not_false_eq_true]
  refine ⟨fun h => ?_, fun h => ?_⟩
  · have hc : 0 ≤ n ∧ n ≤ 20 := Classical.byContradiction fun z => h (if_neg z)
    refine kwX7_want_21 hC hE ?_
    simp only [kbX7_want_21, mX7_want, kblk, kstp, kent, kpad, kget, kst1, kst2, kc2, cond_false, cond_true, kfv, kfit, kOkf, kputv, kputD, kputG, kcpy, kcat, kRR, kNN, true_and, and_true, if_true, if_false, if_pos, Nat.reduceAdd, Nat.reduceEqDiff, Nat.reduceLeDiff, Nat.reduceLT, reduceIte, Prod.mk.injEq, eq_self, false_and, and_false, reduceCtorEq, Nat.reduceSub, List.reverse_cons, List.reverse_nil, List.nil_append, List.cons_append, Option.toList_some, Option.toList_none, not_true_eq_false, not_false_eq_true, h7, hx, q1]
    refine ⟨Or.inl ⟨hc, rfl, ?_⟩, trivial, Nat.le_refl _, Nat.le_refl _⟩
    have hm0 := mSt_7 (Or.inl rfl) hm 0 0
    refine mPub.of (by simp [kput]) ?_ ⟨mSc_put hm0.1 1 n ?_ ?_ ?_ ?_ ?_ ?_ ?_ ?_ ?_, mArr_free (mArr_sc hm0.2 1 n) 39 0 n (by decide)⟩ (fun i hi => ?_)
    · exact ((mTop_thr ht 0).off (P := 2) (Or.inl rfl) kOff.put kSame.refl).congr rfl rfl (fun c => tZ_ne (by decide)) (fun l => tZ_ne (by decide)) (fun t => tZ_ne (by decide)) (tZ_ne (by decide))
    · rw [if_neg (by decide)]; exact tZ_ne (by decide)
    · rw [if_pos rfl, tZ_tset, zup_eq]
    · rw [if_neg (by decide)]; exact tZ_ne (by decide)
    · rw [if_neg (by decide)]; rfl
    · rw [if_neg (by decide)]; exact tZ_ne (by decide)
    · rw [if_neg (by decide)]; exact tCold_tset (by decide) (by decide)
    · rw [if_neg (by decide)]; exact tTaken_tset (by decide)
    · rw [if_neg (by decide)]; exact tZ_ne (by decide)
    · rw [if_neg (by decide)]; rfl
    · exact (kOff.put (L := 2) i (by omega)).trans (off_7 i hi)
  · have hc : ¬ (0 ≤ n ∧ n ≤ 20) := fun z => by rw [if_pos z] at h; exact absurd h (by decide)
    refine kwX7_want_15 hC hE ?_
    simp only [kbX7_want_15, mX7_want, kblk, kstp, kent, kpad, kget, kst1, kst2, kc2, cond_false, cond_true, kfv, kfit, kOkf, kputv, kputD, kputG, kcpy, kcat, kRR, kNN, true_and, and_true, if_true, if_false, if_pos, Nat.reduceAdd, Nat.reduceEqDiff, Nat.reduceLeDiff, Nat.reduceLT, reduceIte, Prod.mk.injEq, eq_self, false_and, and_false, reduceCtorEq, Nat.reduceSub, List.reverse_cons, List.reverse_nil, List.nil_append, List.cons_append, Option.toList_some, Option.toList_none, not_true_eq_false, not_false_eq_true]
    refine KW_callV hC (by decide +kernel) kl7_48 (by decide) ((m7_no 1)) rfl rfl (Nat.le_of_ble_eq_true rfl) rfl h7 (by simp [kOkL, kOk, h7]) (by simp [kOkS]) (Nat.le_of_ble_eq_true rfl) (Nat.le_of_ble_eq_true rfl) (Nat.le_of_ble_eq_true rfl) ?_
    rintro v M' ⟨rfl, rfl⟩
    refine kwX7_want_20 hC hE ?_
    simp only [kbX7_want_20, mX7_want, kblk, kstp, kent, kpad, kget, kst1, kst2, kc2, cond_false, cond_true, kfv, kfit, kOkf, kputv, kputD, kputG, kcpy, kcat, kRR, kNN, true_and, and_true, if_true, if_false, if_pos, Nat.reduceAdd, Nat.reduceEqDiff, Nat.reduceLeDiff, Nat.reduceLT, reduceIte, Prod.mk.injEq, eq_self, false_and, and_false, reduceCtorEq, Nat.reduceSub, List.reverse_cons, List.reverse_nil, List.nil_append, List.cons_append, Option.toList_some, Option.toList_none, not_true_eq_false, not_false_eq_true]
    exact ⟨Or.inr ⟨hc, rfl, mPub_no ht hm 1⟩, trivial, Nat.le_refl _, Nat.le_refl _⟩
end M7

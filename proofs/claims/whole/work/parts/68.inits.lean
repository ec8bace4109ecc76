/-! The constructors: what memory they leave. -/
theorem i_X0 {M : KM} {L c : Nat} (h : M.1 (0, L, c)) : SpQ mX0_init 0 0 [kR (some (0, L, c))] M (fun v M' => v = none ∧ M' = kputD M (0, L, c) 1 (-1)) := by
  refine SpQ_of (own := 0) (ini := true) (by decide +kernel) rfl (fun _ => rfl) (Nat.le_of_ble_eq_true rfl) ?_
  intro X hC hE hL0
  refine kwX0_init_0 hC hE ?_
  simp only [kbX0_init_0, mX0_init, kblk, kstp, kent, kpad, kget, kst1, kst2, kc2, cond_false, cond_true, kfv, kfit, kOkf, kputv, kputD, kputG, kcpy, kcat, kRR, kNN, true_and, and_true, if_true, if_false, if_pos, Nat.reduceAdd, Nat.reduceEqDiff, Nat.reduceLeDiff, Nat.reduceLT, reduceIte, Prod.mk.injEq, eq_self, false_and, and_false, reduceCtorEq, Nat.reduceSub, List.reverse_cons, List.reverse_nil, List.nil_append, List.cons_append, Option.toList_some, Option.toList_none, not_true_eq_false, not_false_eq_true, h, kroom]
  exact ⟨by decide, ⟨rfl, rfl⟩, trivial, Nat.le_refl _, Nat.le_refl _⟩
theorem i_X1 {M : KM} {L c : Nat} (h : M.1 (1, L, c)) : SpQ mX1_init 0 0 [kR (some (1, L, c))] M (fun v M' => v = none ∧ M' = M) := by
  refine SpQ_of (own := 1) (ini := true) (by decide +kernel) rfl (fun _ => rfl) (Nat.le_of_ble_eq_true rfl) ?_
  intro X hC hE hL0
  refine kwX1_init_0 hC hE ?_
  simp only [kbX1_init_0, mX1_init, kblk, kstp, kent, kpad, kget, kst1, kst2, kc2, cond_false, cond_true, kfv, kfit, kOkf, kputv, kputD, kputG, kcpy, kcat, kRR, kNN, true_and, and_true, if_true, if_false, if_pos, Nat.reduceAdd, Nat.reduceEqDiff, Nat.reduceLeDiff, Nat.reduceLT, reduceIte, Prod.mk.injEq, eq_self, false_and, and_false, reduceCtorEq, Nat.reduceSub, List.reverse_cons, List.reverse_nil, List.nil_append, List.cons_append, Option.toList_some, Option.toList_none, not_true_eq_false, not_false_eq_true, h, kroom]
  exact ⟨by decide, ⟨rfl, rfl⟩, trivial, Nat.le_refl _, Nat.le_refl _⟩
theorem i_X4 {M : KM} {L k n : Nat} (h : M.1 (4, L, k)) (h8 : ¬ M.1 (8, L, k + 1)) (hn : 0 < n) (hn2 : n ≤ 1000) : SpQ mX4_init 1 n [kR (some (4, L, k)), kI (nI n)] M (fun v M' => v = none ∧ M' = kputR (knew M (8, L, k + 1) n) (4, L, k) 0 (some (8, L, k + 1))) := by
  refine SpQ_of (own := 4) (ini := true) (by decide +kernel) rfl (fun _ => rfl) (Nat.le_of_ble_eq_true rfl) ?_
  intro X hC hE hL0
  have hcn := nI_clamp (show n < 2 ^ 31 by omega)
  refine kwX4_init_0 hC hE ?_
  simp only [kbX4_init_0, mX4_init, kblk, kstp, kent, kpad, kget, kst1, kst2, kc2, cond_false, cond_true, kfv, kfit, kOkf, kputv, kputD, kputG, kcpy, kcat, kRR, kNN, true_and, and_true, if_true, if_false, if_pos, Nat.reduceAdd, Nat.reduceEqDiff, Nat.reduceLeDiff, Nat.reduceLT, reduceIte, Prod.mk.injEq, eq_self, false_and, and_false, reduceCtorEq, Nat.reduceSub, List.reverse_cons, List.reverse_nil, List.nil_append, List.cons_append, Option.toList_some, Option.toList_none, not_true_eq_false, not_false_eq_true, h, kroom]
  refine ⟨by decide, fun w => absurd w (nI_nle hn (by omega)), fun _ => ?_⟩
  refine kwX4_init_9 hC hE ?_
  simp only [kbX4_init_9, mX4_init, kblk, kstp, kent, kpad, kget, kst1, kst2, kc2, cond_false, cond_true, kfv, kfit, kOkf, kputv, kputD, kputG, kcpy, kcat, kRR, kNN, true_and, and_true, if_true, if_false, if_pos, Nat.reduceAdd, Nat.reduceEqDiff, Nat.reduceLeDiff, Nat.reduceLT, reduceIte, Prod.mk.injEq, eq_self, false_and, and_false, reduceCtorEq, Nat.reduceSub, List.reverse_cons, List.reverse_nil, List.nil_append, List.cons_append, Option.toList_some, Option.toList_none, not_true_eq_false, not_false_eq_true]
  refine kwX4_init_14 hC hE ?_
  simp only [kbX4_init_14, mX4_init, kblk, kstp, kent, kpad, kget, kst1, kst2, kc2, cond_false, cond_true, kfv, kfit, kOkf, kputv, kputD, kputG, kcpy, kcat, kRR, kNN, true_and, and_true, if_true, if_false, if_pos, Nat.reduceAdd, Nat.reduceEqDiff, Nat.reduceLeDiff, Nat.reduceLT, reduceIte, Prod.mk.injEq, eq_self, false_and, and_false, reduceCtorEq, Nat.reduceSub, List.reverse_cons, List.reverse_nil, List.nil_append, List.cons_append, Option.toList_some, Option.toList_none, not_true_eq_false, not_false_eq_true, h, kroom, hcn]
  refine ⟨(8, L, k + 1), rfl, h8, by simp [kOkL, kOk, h], by simp [kOkS, kOk, h], nI_pos (by omega), hn2, by omega, ?_⟩
  simp only [kblk, kstp, kent, kpad, kget, kst1, kst2, kc2, cond_false, cond_true, kfv, kfit, kOkf, kputv, kputD, kputG, kcpy, kcat, kRR, kNN, true_and, and_true, if_true, if_false, if_pos, Nat.reduceAdd, Nat.reduceEqDiff, Nat.reduceLeDiff, Nat.reduceLT, reduceIte, Prod.mk.injEq, eq_self, false_and, and_false, reduceCtorEq, Nat.reduceSub, List.reverse_cons, List.reverse_nil, List.nil_append, List.cons_append, Option.toList_some, Option.toList_none, not_true_eq_false, not_false_eq_true, kblk, kstp, h, knew, or_true, true_or]
  exact ⟨⟨rfl, rfl⟩, trivial, Nat.le_refl _, by omega⟩
theorem i_X2 {M : KM} {L l : Nat} (h : M.1 (2, L, l)) (h4 : ¬ M.1 (4, L, l + 1)) (h8 : ¬ M.1 (8, L, l + 2)) : SpQ mX2_init 2 93 [kR (some (2, L, l))] M (fun v M' => v = none ∧ M' = kputR (kputR (knew (knew M (4, L, l + 1) 0) (8, L, l + 2) 91) (4, L, l + 1) 0 (some (8, L, l + 2))) (2, L, l) 0 (some (4, L, l + 1))) := by
  refine SpQ_of (own := 2) (ini := true) (by decide +kernel) rfl (fun _ => rfl) (Nat.le_of_ble_eq_true rfl) ?_
  intro X hC hE hL0
  refine kwX2_init_0 hC hE ?_
  simp only [kbX2_init_0, mX2_init, kblk, kstp, kent, kpad, kget, kst1, kst2, kc2, cond_false, cond_true, kfv, kfit, kOkf, kputv, kputD, kputG, kcpy, kcat, kRR, kNN, true_and, and_true, if_true, if_false, if_pos, Nat.reduceAdd, Nat.reduceEqDiff, Nat.reduceLeDiff, Nat.reduceLT, reduceIte, Prod.mk.injEq, eq_self, false_and, and_false, reduceCtorEq, Nat.reduceSub, List.reverse_cons, List.reverse_nil, List.nil_append, List.cons_append, Option.toList_some, Option.toList_none, not_true_eq_false, not_false_eq_true, h, kroom]
  have h4' : (knew M (4, L, l + 1) 0).1 (4, L, l + 1) := Or.inl rfl
  have h2' : (knew M (4, L, l + 1) 0).1 (2, L, l) := Or.inr h
  refine ⟨by decide, (4, L, l + 1), rfl, h4, by simp [kOkL, kOk, h], by simp [kOkS, kOk, h], ?_⟩
  have h8' : ¬ (knew M (4, L, l + 1) 0).1 (8, L, l + 1 + 1) := by
    intro z
    rcases z with z | z
    · exact absurd (congrArg Prod.fst z) (by simp)
    · exact h8 z
  refine KW_callI hC (by decide +kernel) rfl kl2_11 (by decide) ((i_X4 (n := 91) h4' h8' (by decide) (by decide))) rfl rfl (by simp [kOkL, kOk, h2']) (by simp [kOkS, kOk, h2', h4']) (Nat.le_of_ble_eq_true rfl) (Nat.le_of_ble_eq_true rfl) (Nat.le_of_ble_eq_true rfl) ?_
  rintro v M' ⟨rfl, rfl⟩
  have e1 : ∀ o, (kputR (knew (knew M (4, L, l + 1) 0) (8, L, l + 1 + 1) 91) (4, L, l + 1) 0 o).1 (2, L, l) := fun o => Or.inr (Or.inr h)
  have e2 : ∀ o, (kputR (knew (knew M (4, L, l + 1) 0) (8, L, l + 1 + 1) 91) (4, L, l + 1) 0 o).1 (4, L, l + 1) := fun o => Or.inr (Or.inl rfl)
  refine kwX2_init_14 hC hE ?_
  simp only [kbX2_init_14, mX2_init, kblk, kstp, kent, kpad, kget, kst1, kst2, kc2, cond_false, cond_true, kfv, kfit, kOkf, kputv, kputD, kputG, kcpy, kcat, kRR, kNN, true_and, and_true, if_true, if_false, if_pos, Nat.reduceAdd, Nat.reduceEqDiff, Nat.reduceLeDiff, Nat.reduceLT, reduceIte, Prod.mk.injEq, eq_self, false_and, and_false, reduceCtorEq, Nat.reduceSub, List.reverse_cons, List.reverse_nil, List.nil_append, List.cons_append, Option.toList_some, Option.toList_none, not_true_eq_false, not_false_eq_true, e1, e2]
  exact ⟨⟨rfl, rfl⟩, trivial, Nat.le_refl _, Nat.le_refl _⟩
/-- M' differs from M at x alone -/
def kO (x : KI) (M M' : KM) : Prop := ∀ i, i ≠ x → (M'.1 i ↔ M.1 i) ∧ M'.2.1 i = M.2.1 i ∧ M'.2.2.1 i = M.2.2.1 i ∧ M'.2.2.2.1 i = M.2.2.2.1 i ∧ M'.2.2.2.2 i = M.2.2.2.2 i
theorem kO_new {M : KM} {x : KI} {n : Nat} : kO x M (knew M x n) := fun i hi => ⟨⟨fun h => h.resolve_left hi, Or.inr⟩, by simp [knew, kset, hi], by simp [knew, kset, hi], by simp [knew, kset, hi], by simp [knew, kset, hi]⟩
theorem kO_D {M : KM} {x : KI} {j : Nat} {v : Int32} : kO x M (kputD M x j v) := fun i hi => ⟨Iff.rfl, rfl, by funext b; simp [kputD, kput, hi], rfl, rfl⟩
theorem kO_R {M : KM} {x : KI} {j : Nat} {v : Option KI} : kO x M (kputR M x j v) := fun i hi => ⟨Iff.rfl, by funext b; simp [kputR, kput, hi], rfl, rfl, rfl⟩
def kat (M : KM) (i : KI) (r : Nat → Option KI) (z : Nat → Int32) (n : Nat) : Prop := M.1 i ∧ M.2.1 i = r ∧ M.2.2.1 i = z ∧ M.2.2.2.2 i = n
theorem kat.o {M M' : KM} {x i : KI} {r : Nat → Option KI} {z : Nat → Int32} {n : Nat} (h : kat M i r z n) (hi : i ≠ x) (ho : kO x M M') : kat M' i r z n := by
  obtain ⟨a, b, c, -, e⟩ := ho i hi
  exact ⟨a.mpr h.1, b.trans h.2.1, c.trans h.2.2.1, e.trans h.2.2.2⟩
theorem kat_new {M : KM} {i : KI} {n : Nat} : kat (knew M i n) i (fun _ => none) (fun _ => 0) n := ⟨Or.inl rfl, by simp [knew, kset], by simp [knew, kset], by simp [knew, kset]⟩
theorem kat.D {M : KM} {i : KI} {r : Nat → Option KI} {z : Nat → Int32} {n j : Nat} {v : Int32} (h : kat M i r z n) : kat (kputD M i j v) i r (fun b => if b = j then v else z b) n := ⟨h.1, h.2.1, by funext b; simp [kputD, kput, h.2.2.1], h.2.2.2⟩
theorem kat.R {M : KM} {i : KI} {r : Nat → Option KI} {z : Nat → Int32} {n j : Nat} {v : Option KI} (h : kat M i r z n) : kat (kputR M i j v) i (fun b => if b = j then v else r b) z n := ⟨h.1, by funext b; simp [kputR, kput, h.2.1], h.2.2.1, h.2.2.2⟩
theorem kO.trans {x : KI} {M M1 M2 : KM} (h : kO x M M1) (h2 : kO x M1 M2) : kO x M M2 := fun i hi => by
  obtain ⟨a, b, c, d, e⟩ := h i hi
  obtain ⟨a2, b2, c2, d2, e2⟩ := h2 i hi
  exact ⟨a2.trans a, b2.trans b, c2.trans c, d2.trans d, e2.trans e⟩

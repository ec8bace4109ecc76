/-! The constructor of the reference; what stands when both are made. -/
theorem kat.e {M M' : KM} {i : KI} {r : Nat → Option KI} {z : Nat → Int32} {n : Nat} (h : kat M i r z n) (he : kE i M M') : kat M' i r z n := by
  obtain ⟨a, b, c, -, e⟩ := he
  exact ⟨a.mpr h.1, b.trans h.2.1, c.trans h.2.2.1, e.trans h.2.2.2⟩
theorem stOK.e {P : Nat} {M M' : KM} (h : stOK P M) (he : ∀ i : KI, i.2.1 = P → kE i M M') : stOK P M' :=
  ⟨h.1.e (he _ rfl), fun k h1 h2 => (h.2.1 k h1 h2).e (he _ rfl), fun i hi hl => h.2.2 i hi ((he i hi).1.mp hl)⟩
def topOK (M' : KM) : Prop := kat M' (7, 4, 0) (kRR (7, 4, 0)) (fun b => if b = 1 then 6 else 0) 0 ∧ ∀ k, k < 3 → kat M' (8, 4, k) (fun _ => none) (fun _ => 0) (kN8 4 k)
def a4 (M : KM) : KM := kputR (knew (kputR (knew (kputR (knew (kputD M (7, 4, 0) 1 6) (8, 4, 0) 20) (7, 4, 0) 4 (some (8, 4, 0))) (8, 4, 1) 4) (7, 4, 0) 5 (some (8, 4, 1))) (8, 4, 2) 24) (7, 4, 0) 6 (some (8, 4, 2))
theorem i_X7 {M : KM} (hM : kat M (7, 4, 0) (fun _ => none) (fun _ => 0) 0) (hfr : ∀ i : KI, M.1 i → i.2.1 ≠ 2 ∧ i.2.1 ≠ 3 ∧ (i.2.1 = 4 → i = (7, 4, 0))) : SpQ mX7_init 31 2232 [kR (some (7, 4, 0))] M (fun v M' => v = none ∧ topOK M' ∧ stOK 2 M' ∧ stOK 3 M' ∧ ∀ i : KI, i.2.1 ≠ 2 → i.2.1 ≠ 3 → i.2.1 ≠ 4 → kE i M M') := by
  refine SpQ_of (own := 7) (ini := true) (by decide +kernel) rfl (fun _ => rfl) (Nat.le_of_ble_eq_true rfl) ?_
  intro X hC hE hL0
  have h := hM.1
  have n8 : ∀ k, ¬ M.1 (8, 4, k) := fun k z => absurd (congrArg Prod.fst ((hfr _ z).2.2 rfl)) (by simp)
  have n62 : ¬ M.1 (6, 2, 0) := fun z => (hfr _ z).1 rfl
  have n63 : ¬ M.1 (6, 3, 0) := fun z => (hfr _ z).2.1 rfl
  have l4 : ∀ i : KI, i.2.1 ≠ 4 → kE i M (a4 M) := fun i hi => ((((((kE.rf.putD (neL hi)).new (neL hi)).putR (neL hi)).new (neL hi)).putR (neL hi)).new (neL hi)).putR (neL hi)
  have t7 : kat (a4 M) (7, 4, 0) _ _ _ := ((((((hM.D (j := 1) (v := 6)).new (x := (8, 4, 0)) (n2 := 20) (neK (Or.inl (by decide)))).R (j := 4) (v := some (8, 4, 0))).new (x := (8, 4, 1)) (n2 := 4) (neK (Or.inl (by decide)))).R (j := 5) (v := some (8, 4, 1))).new (x := (8, 4, 2)) (n2 := 24) (neK (Or.inl (by decide)))).R (j := 6) (v := some (8, 4, 2))
  have t80 : kat (a4 M) (8, 4, 0) _ _ _ := (((((kat_new (M := kputD M (7, 4, 0) 1 6) (i := (8, 4, 0)) (n := 20)).putR (x := (7, 4, 0)) (j := 4) (v := some (8, 4, 0)) (neK (Or.inl (by decide)))).new (x := (8, 4, 1)) (n2 := 4) (neK (Or.inr (by decide)))).putR (x := (7, 4, 0)) (j := 5) (v := some (8, 4, 1)) (neK (Or.inl (by decide)))).new (x := (8, 4, 2)) (n2 := 24) (neK (Or.inr (by decide)))).putR (x := (7, 4, 0)) (j := 6) (v := some (8, 4, 2)) (neK (Or.inl (by decide)))
  have t81 : kat (a4 M) (8, 4, 1) _ _ _ := (((kat_new (i := (8, 4, 1)) (n := 4)).putR (x := (7, 4, 0)) (j := 5) (v := some (8, 4, 1)) (neK (Or.inl (by decide)))).new (x := (8, 4, 2)) (n2 := 24) (neK (Or.inr (by decide)))).putR (x := (7, 4, 0)) (j := 6) (v := some (8, 4, 2)) (neK (Or.inl (by decide)))
  have t82 : kat (a4 M) (8, 4, 2) _ _ _ := (kat_new (i := (8, 4, 2)) (n := 24)).putR (x := (7, 4, 0)) (j := 6) (v := some (8, 4, 2)) (neK (Or.inl (by decide)))
  refine kwX7_init_0 hC hE ?_
  simp only [kbX7_init_0, mX7_init, kblk, kstp, kent, kpad, kget, kst1, kst2, kc2, cond_false, cond_true, kfv, kfit, kOkf, kputv, kputD, kputG, kcpy, kcat, kRR, kNN, true_and, and_true, if_true, if_false, if_pos, Nat.reduceAdd, Nat.reduceEqDiff, Nat.reduceLeDiff, Nat.reduceLT, reduceIte, Prod.mk.injEq, eq_self, false_and, and_false, reduceCtorEq, Nat.reduceSub, List.reverse_cons, List.reverse_nil, List.nil_append, List.cons_append, Option.toList_some, Option.toList_none, not_true_eq_false, not_false_eq_true, h, kroom]
  refine ⟨by decide, (8, 4, 0), rfl, n8 0, by simp [kOkL, kOk, h], by simp [kOkS, kOk, h], by decide, ?_⟩
  simp only [kblk, kstp, kent, kpad, kget, kst1, kst2, kc2, cond_false, cond_true, kfv, kfit, kOkf, kputv, kputD, kputG, kcpy, kcat, kRR, kNN, true_and, and_true, if_true, if_false, if_pos, Nat.reduceAdd, Nat.reduceEqDiff, Nat.reduceLeDiff, Nat.reduceLT, reduceIte, Prod.mk.injEq, eq_self, false_and, and_false, reduceCtorEq, Nat.reduceSub, List.reverse_cons, List.reverse_nil, List.nil_append, List.cons_append, Option.toList_some, Option.toList_none, not_true_eq_false, not_false_eq_true, kblk, kstp, h, knew, kputR, or_true, true_or, kroom, cl20, cl91, cl4, c24a]
  refine ⟨(8, 4, 1), rfl, by simp [n8], by simp [kOkL, kOk, h], by simp [kOkS, kOk, h], by decide, (8, 4, 2), rfl, by simp [n8], by simp [kOkL, kOk, h], by simp [kOkS, kOk, h], by decide, (6, 2, 0), rfl, by simp [n62], by simp [kOkL, kOk, h], by simp [kOkS, kOk, h], ?_⟩
  show KW X 39 [some (kR (some (7, 4, 0)))] [kR (some (7, 4, 0)), kR (some (6, 2, 0)), kR (some (6, 2, 0)), kR (some (7, 4, 0))] (knew (a4 M) (6, 2, 0) 0) 4 71
  have p7 : (knew (a4 M) (6, 2, 0) 0).1 (7, 4, 0) := Or.inr t7.1
  have p6 : (knew (a4 M) (6, 2, 0) 0).1 (6, 2, 0) := Or.inl rfl
  have f2 : ∀ i : KI, i.2.1 = 2 → (knew (a4 M) (6, 2, 0) 0).1 i → i = (6, 2, 0) := fun i hi z => z.elim id (fun w => absurd hi (hfr i ((l4 i (by omega)).1.mp w)).1)
  refine KW_callIN hC (by decide +kernel) rfl kl7_25 (by decide) ((i_X6 (P := 2) (Or.inl rfl) kat_new p7 f2)) rfl rfl (by simp [kOkL, kOk, p7]) (by simp [kOkS, kOk, p7, p6]) (Nat.le_of_ble_eq_true rfl) (Nat.le_of_ble_eq_true rfl) (Nat.le_of_ble_eq_true rfl) ?_
  rintro v M6 ⟨rfl, e6, s6⟩
  have ne76 : ∀ P : Nat, ((7, 4, 0) : KI) ≠ (6, P, 0) := fun P z => by simp at z
  have ne86 : ∀ P k : Nat, ((8, 4, k) : KI) ≠ (6, P, 0) := fun P k z => by simp at z
  have u7 : kat M6 (7, 4, 0) _ _ _ := (t7.new (x := (6, 2, 0)) (n2 := 0) (ne76 2)).e (e6 _ (by decide))
  have q7 : ∀ o, (kputR M6 (7, 4, 0) 7 o).1 (7, 4, 0) := fun o => u7.1
  have g7 := u7.1
  have g6 := s6.1.1
  have n63' : ∀ o, ¬ (kputR M6 (7, 4, 0) 7 o).1 (6, 3, 0) := fun o z => by
    have z2 := (e6 (6, 3, 0) (by decide)).1.mp z
    rcases z2 with z2 | z2
    · exact absurd z2 (by simp)
    · exact n63 ((l4 (6, 3, 0) (by decide)).1.mp z2)
  refine kwX7_init_42 hC hE ?_
  simp only [kbX7_init_42, mX7_init, kblk, kstp, kent, kpad, kget, kst1, kst2, kc2, cond_false, cond_true, kfv, kfit, kOkf, kputv, kputD, kputG, kcpy, kcat, kRR, kNN, true_and, and_true, if_true, if_false, if_pos, Nat.reduceAdd, Nat.reduceEqDiff, Nat.reduceLeDiff, Nat.reduceLT, reduceIte, Prod.mk.injEq, eq_self, false_and, and_false, reduceCtorEq, Nat.reduceSub, List.reverse_cons, List.reverse_nil, List.nil_append, List.cons_append, Option.toList_some, Option.toList_none, not_true_eq_false, not_false_eq_true, g7, q7, g6, kroom]
  refine ⟨(6, 3, 0), rfl, n63' _, by simp [kOkL, kOk, q7], by simp [kOkS, kOk, q7], ?_⟩
  have p7' : ∀ o, (knew (kputR M6 (7, 4, 0) 7 o) (6, 3, 0) 0).1 (7, 4, 0) := fun o => Or.inr g7
  have p6' : ∀ o, (knew (kputR M6 (7, 4, 0) 7 o) (6, 3, 0) 0).1 (6, 3, 0) := fun o => Or.inl rfl
  have f3 : ∀ o, ∀ i : KI, i.2.1 = 3 → (knew (kputR M6 (7, 4, 0) 7 o) (6, 3, 0) 0).1 i → i = (6, 3, 0) := fun o i hi z => z.elim id (fun w => by
    rcases (e6 i (by omega)).1.mp w with z2 | z2
    · rw [z2] at hi; exact absurd hi (by decide)
    · exact absurd hi (hfr i ((l4 i (by omega)).1.mp z2)).2.1)
  refine KW_callIN hC (by decide +kernel) rfl kl7_25 (by decide) ((i_X6 (P := 3) (Or.inr rfl) kat_new (p7' _) (f3 _))) rfl rfl (by simp [kOkL, kOk, p7']) (by simp [kOkS, kOk, p7', p6']) (Nat.le_of_ble_eq_true rfl) (Nat.le_of_ble_eq_true rfl) (Nat.le_of_ble_eq_true rfl) ?_
  rintro v M9 ⟨rfl, e9, s9⟩
  have v7 : kat M9 (7, 4, 0) _ _ _ := ((u7.R (j := 7) (v := some (6, 2, 0))).new (x := (6, 3, 0)) (n2 := 0) (ne76 3)).e (e9 _ (by decide))
  have w7 := v7.1
  have w6 := s9.1.1
  refine kwX7_init_54 hC hE ?_
  simp only [kbX7_init_54, mX7_init, kblk, kstp, kent, kpad, kget, kst1, kst2, kc2, cond_false, cond_true, kfv, kfit, kOkf, kputv, kputD, kputG, kcpy, kcat, kRR, kNN, true_and, and_true, if_true, if_false, if_pos, Nat.reduceAdd, Nat.reduceEqDiff, Nat.reduceLeDiff, Nat.reduceLT, reduceIte, Prod.mk.injEq, eq_self, false_and, and_false, reduceCtorEq, Nat.reduceSub, List.reverse_cons, List.reverse_nil, List.nil_append, List.cons_append, Option.toList_some, Option.toList_none, not_true_eq_false, not_false_eq_true, w7, w6]
  have r7 := v7.R (j := 8) (v := some (6, 3, 0))
  have r8 : ∀ k, k < 3 → ∀ {r z n}, kat (a4 M) (8, 4, k) r z n → kat (kputR M9 (7, 4, 0) 8 (some (6, 3, 0))) (8, 4, k) r z n := fun k hk r z n hh => ((((hh.new (x := (6, 2, 0)) (n2 := 0) (ne86 2 k)).e (e6 _ (by show (4 : Nat) ≠ 2; decide))).putR (x := (7, 4, 0)) (j := 7) (v := some (6, 2, 0)) (neK (Or.inl (by decide)))).new (x := (6, 3, 0)) (n2 := 0) (ne86 3 k)).e (e9 _ (by show (4 : Nat) ≠ 3; decide)) |>.putR (neK (Or.inl (by decide)))
  refine ⟨⟨rfl, ⟨⟨r7.1, r7.2.1.trans ?_, r7.2.2⟩, fun k hk => ?_⟩, ?_, ?_, fun i h2 h3 h4 => ?_⟩, trivial, by decide, by decide⟩
  · funext b
    by_cases hb : b < 9
    · have : b = 0 ∨ b = 1 ∨ b = 2 ∨ b = 3 ∨ b = 4 ∨ b = 5 ∨ b = 6 ∨ b = 7 ∨ b = 8 := by omega
      rcases this with rfl | rfl | rfl | rfl | rfl | rfl | rfl | rfl | rfl <;> rfl
    · obtain ⟨c, rfl⟩ : ∃ c, b = c + 9 := ⟨b - 9, by omega⟩
      simp [kRR]
  · have : k = 0 ∨ k = 1 ∨ k = 2 := by omega
    rcases this with rfl | rfl | rfl
    · exact r8 0 hk t80
    · exact r8 1 hk t81
    · exact r8 2 hk t82
  · refine s6.e (fun i hi => ?_)
    have n7 : i ≠ (7, 4, 0) := fun z => by rw [z] at hi; exact absurd hi (by decide)
    have n6 : i ≠ (6, 3, 0) := fun z => by rw [z] at hi; exact absurd hi (by decide)
    exact (((kE.rf.putR n7).new n6).tr (e9 i (by omega))).putR n7
  · refine s9.e (fun i hi => ?_)
    have n7 : i ≠ (7, 4, 0) := fun z => by rw [z] at hi; exact absurd hi (by decide)
    exact kE.rf.putR n7
  · have n7 : i ≠ (7, 4, 0) := fun z => h4 (by rw [z])
    have n6 : i ≠ (6, 3, 0) := fun z => h3 (by rw [z])
    have n62' : i ≠ (6, 2, 0) := fun z => h2 (by rw [z])
    exact (((((l4 i h4).new n62').tr (e6 i h2)).putR n7).new n6).tr (e9 i h3) |>.putR n7

/-! The law from its entry to its loop. -/
def kM0 : KM := ((fun _ => False), (fun _ _ => none), (fun _ _ => 0), (fun _ _ => 0), fun _ => 0)
theorem law_run {X : KX} {L : Nat} {xs : Nat → Int32} {E : KEnd} (hC : KC X mL_law 8 false (some (L, xs)) 601024 7293034) (hCX : KCX X) (hE : KRet X mL_law E) (hEnd : ∀ M cs sl, cs ≤ 601024 → sl ≤ 7293034 → E (some (kI 1)) M cs sl) (hL : L ≤ 2048) (hL0 : KL0 X = fun _ => False) : KW X 0 [some (kR (some (13, 0, 0))), none, none, none, none, none, none, none, none] [] kM0 0 0 := by
  refine kwL_law_0 hC hE ?_
  simp only [kbL_law_0, mL_law, kblk, kstp, kent, kpad, kget, kst1, kst2, kc2, cond_false, cond_true, kfv, kfit, kOkf, kputv, kputD, kputG, kcpy, kcat, kRR, kNN, true_and, and_true, if_true, if_false, if_pos, Nat.reduceAdd, Nat.reduceEqDiff, Nat.reduceLeDiff, Nat.reduceLT, reduceIte, Prod.mk.injEq, eq_self, false_and, and_false, reduceCtorEq, Nat.reduceSub, List.reverse_cons, List.reverse_nil, List.nil_append, List.cons_append, Option.toList_some, Option.toList_none, not_true_eq_false, not_false_eq_true, kroom]
  refine ⟨(5, 9, 0), rfl, fun z => z, by simp [kOkL, kOk], by simp [kOkS], ?_⟩
  have k1 : (knew kM0 (5, 9, 0) 0).1 (5, 9, 0) := Or.inl rfl
  have f1 : ∀ i : KI, (knew kM0 (5, 9, 0) 0).1 i → i = (5, 9, 0) := fun i z => z.elim id (fun w => w.elim)
  refine KW_callI hC (by decide +kernel) rfl kl8_80 (by decide) ((i_X5 kat_new f1)) rfl rfl (by simp [kOkL, kOk]) (by simp [kOkS, kOk, k1]) (Nat.le_of_ble_eq_true rfl) (Nat.le_of_ble_eq_true rfl) (Nat.le_of_ble_eq_true rfl) ?_
  rintro v M5 ⟨rfl, g1, g5, l0, l1⟩
  have p5 := g5.1
  have n7 : ¬ M5.1 (7, 4, 0) := fun z => by
    rcases g1 _ z with w | w | w
    · exact absurd w (by decide)
    · exact absurd w (by decide)
    · exact absurd w (by simp)
  refine kwL_law_7 hC hE ?_
  simp only [kbL_law_7, mL_law, kblk, kstp, kent, kpad, kget, kst1, kst2, kc2, cond_false, cond_true, kfv, kfit, kOkf, kputv, kputD, kputG, kcpy, kcat, kRR, kNN, true_and, and_true, if_true, if_false, if_pos, Nat.reduceAdd, Nat.reduceEqDiff, Nat.reduceLeDiff, Nat.reduceLT, reduceIte, Prod.mk.injEq, eq_self, false_and, and_false, reduceCtorEq, Nat.reduceSub, List.reverse_cons, List.reverse_nil, List.nil_append, List.cons_append, Option.toList_some, Option.toList_none, not_true_eq_false, not_false_eq_true, kroom]
  refine ⟨(7, 4, 0), rfl, n7, by simp [kOkL, kOk, p5], by simp [kOkS], ?_⟩
  have q5 : (knew M5 (7, 4, 0) 0).1 (5, 9, 0) := Or.inr p5
  have q7 : (knew M5 (7, 4, 0) 0).1 (7, 4, 0) := Or.inl rfl
  have f7 : ∀ i : KI, (knew M5 (7, 4, 0) 0).1 i → i.2.1 ≠ 2 ∧ i.2.1 ≠ 3 ∧ (i.2.1 = 4 → i = (7, 4, 0)) := by
    intro i z
    rcases z with z | z
    · subst z; exact ⟨by decide, by decide, fun _ => rfl⟩
    · rcases g1 i z with w | w | w
      · exact ⟨by omega, by omega, fun h => by omega⟩
      · exact ⟨by omega, by omega, fun h => by omega⟩
      · subst w; exact ⟨by decide, by decide, fun h => absurd h (by decide)⟩
  refine KW_callI hC (by decide +kernel) rfl kl8_83 (by decide) ((i_X7 kat_new f7)) rfl rfl (by simp [kOkL, kOk, q5]) (by simp [kOkS, kOk, q7]) (Nat.le_of_ble_eq_true rfl) (Nat.le_of_ble_eq_true rfl) (Nat.le_of_ble_eq_true rfl) ?_
  rintro v M7 ⟨rfl, top, s2, s3, e7⟩
  have r5 : M7.1 (5, 9, 0) := (e7 (5, 9, 0) (by decide) (by decide) (by decide)).1.mpr q5
  have r7 := top.1.1
  have n12 : ¬ M7.1 (12, 9, 0) := fun z => by
    have z2 := (e7 (12, 9, 0) (by decide) (by decide) (by decide)).1.mp z
    rcases z2 with w | w
    · exact absurd w (by simp)
    · rcases g1 _ w with w | w | w
      · exact absurd w (by decide)
      · exact absurd w (by decide)
      · exact absurd w (by simp)
  refine kwL_law_15 hC hE ?_
  simp only [kbL_law_15, mL_law, kblk, kstp, kent, kpad, kget, kst1, kst2, kc2, cond_false, cond_true, kfv, kfit, kOkf, kputv, kputD, kputG, kcpy, kcat, kRR, kNN, true_and, and_true, if_true, if_false, if_pos, Nat.reduceAdd, Nat.reduceEqDiff, Nat.reduceLeDiff, Nat.reduceLT, reduceIte, Prod.mk.injEq, eq_self, false_and, and_false, reduceCtorEq, Nat.reduceSub, List.reverse_cons, List.reverse_nil, List.nil_append, List.cons_append, Option.toList_some, Option.toList_none, not_true_eq_false, not_false_eq_true, kroom, cl1]
  refine ⟨(12, 9, 0), rfl, n12, by simp [kOkL, kOk, r5, r7], by simp [kOkS], by decide, ?_⟩
  have x : ∀ i : KI, i ≠ (12, 9, 0) → kE i M7 (knew M7 (12, 9, 0) 1) := fun i hi => kE.rf.new hi
  have ne : ∀ {i : KI} {p : Nat}, i.2.1 = p → p ≠ 9 → i ≠ (12, 9, 0) := fun h hp z => hp (by rw [← h, z])
  have t0 : ∀ p, p < 2 → liftOK p M5 → liftOK p (knew M7 (12, 9, 0) 1) := fun p hp l => l.e (fun i hi => by
    have n4 : i ≠ (7, 4, 0) := fun z => by rw [z] at hi; have : (4 : Nat) = p := hi; omega
    exact ((kE.rf.new n4).tr (e7 i (by omega) (by omega) (by omega))).new (ne hi (by omega)))
  have t5 : kat (knew M7 (12, 9, 0) 1) (5, 9, 0) _ _ _ := (((g5.new (x := (7, 4, 0)) (n2 := 0) (fun z => by simp at z)).e (e7 _ (by decide) (by decide) (by decide))).new (fun z => by simp at z))
  have tt : topOK (knew M7 (12, 9, 0) 1) := ⟨top.1.e (x _ (fun z => by simp at z)), fun k hk => (top.2 k hk).e (x _ (fun z => by simp at z))⟩
  have ts2 : stOK 2 (knew M7 (12, 9, 0) 1) := s2.e (fun i hi => x i (ne hi (by decide)))
  have ts3 : stOK 3 (knew M7 (12, 9, 0) 1) := s3.e (fun i hi => x i (ne hi (by decide)))
  have hsub := all_made (t0 0 (by decide) l0) (t0 1 (by decide) l1) t5 tt ts2 ts3 kat_new
  refine KW.sub hsub (fun i hi => by rw [hL0] at hi; exact hi.elim) ?_
  exact law_loop hC hCX hE hEnd hL 512 0 _ _ σ0 (by omega) (by omega) (rep_0 (t0 0 (by decide) l0)) (top_0 tt) (st_0 ts2) ⟨⟨6, wf_0⟩, by decide⟩

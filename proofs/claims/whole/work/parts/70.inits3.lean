/-! The constructor of a lift: the run. -/
def b5 (M : KM) (L : Nat) : KM := knew (kputR (knew (kputR (knew (kputR (knew (kputR (knew M (8, L, 0) 24) (3, L, 0) 0 (some (8, L, 0))) (9, L, 0) 20) (3, L, 0) 1 (some (9, L, 0))) (11, L, 0) 4) (3, L, 0) 2 (some (11, L, 0))) (10, L, 0) 91) (3, L, 0) 3 (some (10, L, 0))) (4, L, 0) 0
def b6 (M : KM) (L : Nat) : KM := kputR (knew (b5 M L) (8, L, 1) 20) (4, L, 0) 0 (some (8, L, 1))
def b7 (M : KM) (L : Nat) : KM := kputD (kputR (b6 M L) (3, L, 0) 4 (some (4, L, 0))) (3, L, 0) 8 6
theorem bInv.base {M : KM} {L : Nat} (hL : L < 2) (hM : kat M (3, L, 0) (fun _ => none) (fun _ => 0) 0) (hfr : ∀ i : KI, i.2.1 = L → M.1 i → i = (3, L, 0)) : bInv M L 0 0 0 (b7 M L) := by
  have ne3 : ∀ {a c : Nat}, a ≠ 3 → ((3, L, 0) : KI) ≠ (a, L, c) := fun h => neK (Or.inl (Ne.symm h))
  refine ⟨fun i hi => ?_, fun i hi => ?_⟩
  · unfold b7 b6 b5
    exact (((((((((((((kE.rf.new (neL hi)).putR (neL hi)).new (neL hi)).putR (neL hi)).new (neL hi)).putR (neL hi)).new (neL hi)).putR (neL hi)).new (neL hi)).new (neL hi)).putR (neL hi)).putR (neL hi)).putD (neL hi))
  by_cases e3 : i = (3, L, 0)
  · subst e3
    have k : kat (b7 M L) (3, L, 0) _ _ _ := ((((((((((((hM.new (x := (8, L, 0)) (n2 := 24) (ne3 (by decide))).R (j := 0) (v := some (8, L, 0))).new (x := (9, L, 0)) (n2 := 20) (ne3 (by decide))).R (j := 1) (v := some (9, L, 0))).new (x := (11, L, 0)) (n2 := 4) (ne3 (by decide))).R (j := 2) (v := some (11, L, 0))).new (x := (10, L, 0)) (n2 := 91) (ne3 (by decide))).R (j := 3) (v := some (10, L, 0))).new (x := (4, L, 0)) (n2 := 0) (ne3 (by decide))).new (x := (8, L, 1)) (n2 := 20) (ne3 (by decide))).putR (x := (4, L, 0)) (j := 0) (v := some (8, L, 1)) (ne3 (by decide))).R (j := 4) (v := some (4, L, 0))).D (j := 8) (v := 6)
    refine k.inv (by simp [kLv]) ?_ ?_ rfl
    · funext b
      match b with
      | 0 => simp [kRf, kRR]
      | 1 => simp [kRf, kRR]
      | 2 => simp [kRf, kRR]
      | 3 => simp [kRf, kRR]
      | 4 => simp [kRf, kRR]
      | b + 5 => simp [kRf, kRR]
    · funext b; simp [kZv]
  by_cases e8 : i = (8, L, 0)
  · subst e8
    have k : kat (b7 M L) (8, L, 0) _ _ _ := ((((((((((((kat_new (M := M) (i := (8, L, 0)) (n := 24)).putR (x := (3, L, 0)) (j := 0) (v := some (8, L, 0)) (neK (Or.inl (by decide)))).new (x := (9, L, 0)) (n2 := 20) (neK (Or.inl (by decide)))).putR (x := (3, L, 0)) (j := 1) (v := some (9, L, 0)) (neK (Or.inl (by decide)))).new (x := (11, L, 0)) (n2 := 4) (neK (Or.inl (by decide)))).putR (x := (3, L, 0)) (j := 2) (v := some (11, L, 0)) (neK (Or.inl (by decide)))).new (x := (10, L, 0)) (n2 := 91) (neK (Or.inl (by decide)))).putR (x := (3, L, 0)) (j := 3) (v := some (10, L, 0)) (neK (Or.inl (by decide)))).new (x := (4, L, 0)) (n2 := 0) (neK (Or.inl (by decide)))).new (x := (8, L, 1)) (n2 := 20) (neK (Or.inr (by decide)))).putR (x := (4, L, 0)) (j := 0) (v := some (8, L, 1)) (neK (Or.inl (by decide)))).putR (x := (3, L, 0)) (j := 4) (v := some (4, L, 0)) (neK (Or.inl (by decide)))).putD (x := (3, L, 0)) (j := 8) (v := 6) (neK (Or.inl (by decide)))
    refine k.inv (by simp [kLv]) ?_ ?_ (by simp [kNN, kN8, hL])
    · funext b; simp [kRf, kRR]
    · funext b; simp [kZv]
  by_cases e9 : i = (9, L, 0)
  · subst e9
    have k : kat (b7 M L) (9, L, 0) _ _ _ := ((((((((((kat_new (M := kputR (knew M (8, L, 0) 24) (3, L, 0) 0 (some (8, L, 0))) (i := (9, L, 0)) (n := 20)).putR (x := (3, L, 0)) (j := 1) (v := some (9, L, 0)) (neK (Or.inl (by decide)))).new (x := (11, L, 0)) (n2 := 4) (neK (Or.inl (by decide)))).putR (x := (3, L, 0)) (j := 2) (v := some (11, L, 0)) (neK (Or.inl (by decide)))).new (x := (10, L, 0)) (n2 := 91) (neK (Or.inl (by decide)))).putR (x := (3, L, 0)) (j := 3) (v := some (10, L, 0)) (neK (Or.inl (by decide)))).new (x := (4, L, 0)) (n2 := 0) (neK (Or.inl (by decide)))).new (x := (8, L, 1)) (n2 := 20) (neK (Or.inl (by decide)))).putR (x := (4, L, 0)) (j := 0) (v := some (8, L, 1)) (neK (Or.inl (by decide)))).putR (x := (3, L, 0)) (j := 4) (v := some (4, L, 0)) (neK (Or.inl (by decide)))).putD (x := (3, L, 0)) (j := 8) (v := 6) (neK (Or.inl (by decide)))
    refine k.inv (by simp [kLv]) ?_ ?_ rfl
    · funext b; simp [kRf]
    · funext b; simp [kZv]
  by_cases e11 : i = (11, L, 0)
  · subst e11
    have k : kat (b7 M L) (11, L, 0) _ _ _ := ((((((((kat_new (M := kputR (knew (kputR (knew M (8, L, 0) 24) (3, L, 0) 0 (some (8, L, 0))) (9, L, 0) 20) (3, L, 0) 1 (some (9, L, 0))) (i := (11, L, 0)) (n := 4)).putR (x := (3, L, 0)) (j := 2) (v := some (11, L, 0)) (neK (Or.inl (by decide)))).new (x := (10, L, 0)) (n2 := 91) (neK (Or.inl (by decide)))).putR (x := (3, L, 0)) (j := 3) (v := some (10, L, 0)) (neK (Or.inl (by decide)))).new (x := (4, L, 0)) (n2 := 0) (neK (Or.inl (by decide)))).new (x := (8, L, 1)) (n2 := 20) (neK (Or.inl (by decide)))).putR (x := (4, L, 0)) (j := 0) (v := some (8, L, 1)) (neK (Or.inl (by decide)))).putR (x := (3, L, 0)) (j := 4) (v := some (4, L, 0)) (neK (Or.inl (by decide)))).putD (x := (3, L, 0)) (j := 8) (v := 6) (neK (Or.inl (by decide)))
    refine k.inv (by simp [kLv]) ?_ ?_ rfl
    · funext b; simp [kRf]
    · funext b; simp [kZv]
  by_cases e10 : i = (10, L, 0)
  · subst e10
    have k : kat (b7 M L) (10, L, 0) _ _ _ := ((((((kat_new (M := kputR (knew (kputR (knew (kputR (knew M (8, L, 0) 24) (3, L, 0) 0 (some (8, L, 0))) (9, L, 0) 20) (3, L, 0) 1 (some (9, L, 0))) (11, L, 0) 4) (3, L, 0) 2 (some (11, L, 0))) (i := (10, L, 0)) (n := 91)).putR (x := (3, L, 0)) (j := 3) (v := some (10, L, 0)) (neK (Or.inl (by decide)))).new (x := (4, L, 0)) (n2 := 0) (neK (Or.inl (by decide)))).new (x := (8, L, 1)) (n2 := 20) (neK (Or.inl (by decide)))).putR (x := (4, L, 0)) (j := 0) (v := some (8, L, 1)) (neK (Or.inl (by decide)))).putR (x := (3, L, 0)) (j := 4) (v := some (4, L, 0)) (neK (Or.inl (by decide)))).putD (x := (3, L, 0)) (j := 8) (v := 6) (neK (Or.inl (by decide)))
    refine k.inv (by simp [kLv]) ?_ ?_ rfl
    · funext b; simp [kRf]
    · funext b; simp [kZv]
  by_cases e4 : i = (4, L, 0)
  · subst e4
    have k : kat (b7 M L) (4, L, 0) _ _ _ := (((kat_new (i := (4, L, 0)) (n := 0)).new (x := (8, L, 1)) (n2 := 20) (neK (Or.inl (by decide)))).R (j := 0) (v := some (8, L, 1))).putR (x := (3, L, 0)) (j := 4) (v := some (4, L, 0)) (neK (Or.inl (by decide))) |>.putD (x := (3, L, 0)) (j := 8) (v := 6) (neK (Or.inl (by decide)))
    refine k.inv (by simp [kLv]) ?_ ?_ rfl
    · funext b
      cases b with
      | zero => simp [kRf, kRR]
      | succ b => simp [kRf, kRR]
    · funext b; simp [kZv]
  by_cases e81 : i = (8, L, 1)
  · subst e81
    have k : kat (b7 M L) (8, L, 1) _ _ _ := (((kat_new (M := b5 M L) (i := (8, L, 1)) (n := 20)).putR (x := (4, L, 0)) (j := 0) (v := some (8, L, 1)) (neK (Or.inl (by decide)))).putR (x := (3, L, 0)) (j := 4) (v := some (4, L, 0)) (neK (Or.inl (by decide)))).putD (x := (3, L, 0)) (j := 8) (v := 6) (neK (Or.inl (by decide)))
    refine k.inv (by simp [kLv]) ?_ ?_ (by simp [kNN, kN8, hL])
    · funext b; simp [kRf, kRR]
    · funext b; simp [kZv]
  have hk : kE i M (b7 M L) := by
    unfold b7 b6 b5
    exact (((((((((((((kE.rf.new e8).putR e3).new e9).putR e3).new e11).putR e3).new e10).putR e3).new e4).new e81).putR e4).putR e3).putD e3)
  have hno : ¬ M.1 i := fun z => e3 (hfr i hi z)
  have hnl : ¬ kLv 0 0 0 i := by
    obtain ⟨k, l, m⟩ := i
    have hi' : l = L := hi
    subst hi'
    simp only [Prod.mk.injEq, true_and, not_and] at e3 e8 e9 e11 e10 e4 e81
    simp only [kLv]
    omega
  exact ⟨⟨fun z => absurd (hk.1.mp z) hno, fun z => absurd z hnl⟩, fun z => absurd z hnl⟩
theorem cl20 : (20 : Int32).toNatClampNeg = 20 := by decide
theorem cl91 : (91 : Int32).toNatClampNeg = 91 := by decide
theorem i_X3 {M : KM} {L : Nat} (hL : L < 2) (hM : kat M (3, L, 0) (fun _ => none) (fun _ => 0) 0) (hfr : ∀ i : KI, i.2.1 = L → M.1 i → i = (3, L, 0)) : SpQ mX3_init 129 1373 [kR (some (3, L, 0))] M (fun v M' => v = none ∧ bInv M L 20 4 91 M') := by
  refine SpQ_of (own := 3) (ini := true) (by decide +kernel) rfl (fun _ => rfl) (Nat.le_of_ble_eq_true rfl) ?_
  intro X hC hE hL0
  have h := hM.1
  have nl : ∀ k c, k ≠ 3 → ¬ M.1 (k, L, c) := fun k c hk z => hk (congrArg Prod.fst (hfr (k, L, c) rfl z))
  have n8 := nl 8 0 (by decide)
  have n9 := nl 9 0 (by decide)
  have n11 := nl 11 0 (by decide)
  have n10 := nl 10 0 (by decide)
  have n4 := nl 4 0 (by decide)
  have n81 := nl 8 1 (by decide)
  have ref3 : ∀ {nc ng k : Nat} {M' : KM}, bInv M L nc k ng M' → M'.1 (3, L, 0) ∧ M'.2.1 (3, L, 0) 1 = some (9, L, 0) ∧ M'.2.1 (3, L, 0) 2 = some (11, L, 0) ∧ M'.2.1 (3, L, 0) 3 = some (10, L, 0) := by
    intro nc ng k M' hb
    have := hb.at (i := (3, L, 0)) rfl (by simp [kLv])
    refine ⟨this.1, ?_, ?_, ?_⟩ <;> (rw [this.2.1]; simp [kRf, kRR])
  have groups : ∀ (m g : Nat) (M' : KM), g + m = 91 → bInv M L 20 4 g M' → KW X 112 [some (kR (some (3, L, 0))), some (kI (nI g))] [] M' (38 + g) (645 + 8 * g) := by
    intro m
    induction m with
    | zero =>
      intro g M' hg hb
      have hg' : g = 91 := by omega
      subst hg'
      refine kwX3_init_112 hC hE ?_
      simp only [kbX3_init_112, mX3_init, kblk, kstp, kent, kpad, kget, kst1, kst2, kc2, cond_false, cond_true, kfv, kfit, kOkf, kputv, kputD, kputG, kcpy, kcat, kRR, kNN, true_and, and_true, if_true, if_false, if_pos, Nat.reduceAdd, Nat.reduceEqDiff, Nat.reduceLeDiff, Nat.reduceLT, reduceIte, Prod.mk.injEq, eq_self, false_and, and_false, reduceCtorEq, Nat.reduceSub, List.reverse_cons, List.reverse_nil, List.nil_append, List.cons_append, Option.toList_some, Option.toList_none, not_true_eq_false, not_false_eq_true]
      refine ⟨fun _ => ?_, fun w => absurd (by decide) w⟩
      refine kwX3_init_137 hC hE ?_
      simp only [kbX3_init_137, mX3_init, kblk, kstp, kent, kpad, kget, kst1, kst2, kc2, cond_false, cond_true, kfv, kfit, kOkf, kputv, kputD, kputG, kcpy, kcat, kRR, kNN, true_and, and_true, if_true, if_false, if_pos, Nat.reduceAdd, Nat.reduceEqDiff, Nat.reduceLeDiff, Nat.reduceLT, reduceIte, Prod.mk.injEq, eq_self, false_and, and_false, reduceCtorEq, Nat.reduceSub, List.reverse_cons, List.reverse_nil, List.nil_append, List.cons_append, Option.toList_some, Option.toList_none, not_true_eq_false, not_false_eq_true]
      exact ⟨⟨rfl, hb⟩, trivial, by omega, by omega⟩
    | succ m ih =>
      intro g M' hg hb
      have hcg := nI_clamp (show g < 2 ^ 31 by omega)
      obtain ⟨r0, -, -, r3⟩ := ref3 hb
      have h10 := hb.at (i := (10, L, 0)) rfl (by simp [kLv])
      have hno : ¬ M'.1 (1, L, g) := fun z => by
        have := (hb.2 (1, L, g) rfl).1.mp z
        simp [kLv] at this
      refine kwX3_init_112 hC hE ?_
      simp only [kbX3_init_112, mX3_init, kblk, kstp, kent, kpad, kget, kst1, kst2, kc2, cond_false, cond_true, kfv, kfit, kOkf, kputv, kputD, kputG, kcpy, kcat, kRR, kNN, true_and, and_true, if_true, if_false, if_pos, Nat.reduceAdd, Nat.reduceEqDiff, Nat.reduceLeDiff, Nat.reduceLT, reduceIte, Prod.mk.injEq, eq_self, false_and, and_false, reduceCtorEq, Nat.reduceSub, List.reverse_cons, List.reverse_nil, List.nil_append, List.cons_append, Option.toList_some, Option.toList_none, not_true_eq_false, not_false_eq_true]
      refine ⟨fun w => absurd w (nI_ge (a := g) (b := 91) (by omega) (by decide)), fun _ => ?_⟩
      refine kwX3_init_118 hC hE ?_
      simp only [kbX3_init_118, mX3_init, kblk, kstp, kent, kpad, kget, kst1, kst2, kc2, cond_false, cond_true, kfv, kfit, kOkf, kputv, kputD, kputG, kcpy, kcat, kRR, kNN, true_and, and_true, if_true, if_false, if_pos, Nat.reduceAdd, Nat.reduceEqDiff, Nat.reduceLeDiff, Nat.reduceLT, reduceIte, Prod.mk.injEq, eq_self, false_and, and_false, reduceCtorEq, Nat.reduceSub, List.reverse_cons, List.reverse_nil, List.nil_append, List.cons_append, Option.toList_some, Option.toList_none, not_true_eq_false, not_false_eq_true, r0, r3, kroom]
      refine ⟨(1, L, g), rfl, hno, by simp [kOkL, kOk, r0], by simp [kOkS, kOk, h10.1], by omega, by omega, ?_⟩
      have k1 : (knew M' (1, L, g) 0).1 (1, L, g) := Or.inl rfl
      have k2 : (knew M' (1, L, g) 0).1 (10, L, 0) := Or.inr h10.1
      have k0 : (knew M' (1, L, g) 0).1 (3, L, 0) := Or.inr r0
      have k3 : (knew M' (1, L, g) 0).2.2.2.2 (10, L, 0) = 91 := (h10.new (x := (1, L, g)) (n2 := 0) (neK (Or.inl (by decide)))).2.2.2
      refine KW_callIN hC (by decide +kernel) rfl kl3_48 (by decide) ((i_X1 k1)) rfl rfl (by simp [kOkL, kOk, k0]) (by simp [kOkS, kOk, k1, k2]) (Nat.le_of_ble_eq_true rfl) (by omega) (by omega) ?_
      rintro v M2 ⟨rfl, rfl⟩
      refine kwX3_init_130 hC hE ?_
      simp only [kbX3_init_130, mX3_init, kblk, kstp, kent, kpad, kget, kst1, kst2, kc2, cond_false, cond_true, kfv, kfit, kOkf, kputv, kputD, kputG, kcpy, kcat, kRR, kNN, true_and, and_true, if_true, if_false, if_pos, Nat.reduceAdd, Nat.reduceEqDiff, Nat.reduceLeDiff, Nat.reduceLT, reduceIte, Prod.mk.injEq, eq_self, false_and, and_false, reduceCtorEq, Nat.reduceSub, List.reverse_cons, List.reverse_nil, List.nil_append, List.cons_append, Option.toList_some, Option.toList_none, not_true_eq_false, not_false_eq_true, k1, k2, k3, kelem, hcg, nI_1, true_or, or_true]
      refine ⟨vp_in_nI (show g < 91 by omega) (by omega), ?_⟩
      exact KW.widen (by omega) (by omega) (ih (g + 1) _ (by omega) hb.group)
  have lanes : ∀ (m l : Nat) (M' : KM), l + m = 4 → bInv M L 20 l 0 M' → KW X 86 [some (kR (some (3, L, 0))), some (kI (nI l))] [] M' (26 + 3 * l) (261 + 96 * l) := by
    intro m
    induction m with
    | zero =>
      intro l M' hl hb
      have hl' : l = 4 := by omega
      subst hl'
      refine kwX3_init_86 hC hE ?_
      simp only [kbX3_init_86, mX3_init, kblk, kstp, kent, kpad, kget, kst1, kst2, kc2, cond_false, cond_true, kfv, kfit, kOkf, kputv, kputD, kputG, kcpy, kcat, kRR, kNN, true_and, and_true, if_true, if_false, if_pos, Nat.reduceAdd, Nat.reduceEqDiff, Nat.reduceLeDiff, Nat.reduceLT, reduceIte, Prod.mk.injEq, eq_self, false_and, and_false, reduceCtorEq, Nat.reduceSub, List.reverse_cons, List.reverse_nil, List.nil_append, List.cons_append, Option.toList_some, Option.toList_none, not_true_eq_false, not_false_eq_true]
      refine ⟨fun _ => ?_, fun w => absurd (by decide) w⟩
      refine kwX3_init_110 hC hE ?_
      simp only [kbX3_init_110, mX3_init, kblk, kstp, kent, kpad, kget, kst1, kst2, kc2, cond_false, cond_true, kfv, kfit, kOkf, kputv, kputD, kputG, kcpy, kcat, kRR, kNN, true_and, and_true, if_true, if_false, if_pos, Nat.reduceAdd, Nat.reduceEqDiff, Nat.reduceLeDiff, Nat.reduceLT, reduceIte, Prod.mk.injEq, eq_self, false_and, and_false, reduceCtorEq, Nat.reduceSub, List.reverse_cons, List.reverse_nil, List.nil_append, List.cons_append, Option.toList_some, Option.toList_none, not_true_eq_false, not_false_eq_true]
      exact groups 91 0 M' (by omega) hb
    | succ m ih =>
      intro l M' hl hb
      have hcl := nI_clamp (show l < 2 ^ 31 by omega)
      obtain ⟨r0, -, r2, -⟩ := ref3 hb
      have h11 := hb.at (i := (11, L, 0)) rfl (by simp [kLv])
      have hno : ¬ M'.1 (2, L, l) := fun z => by
        have := (hb.2 (2, L, l) rfl).1.mp z
        simp [kLv] at this
      have hno4 : ¬ M'.1 (4, L, l + 1) := fun z => by
        have := (hb.2 (4, L, l + 1) rfl).1.mp z
        simp [kLv] at this
      have hno8 : ¬ M'.1 (8, L, l + 2) := fun z => by
        have := (hb.2 (8, L, l + 2) rfl).1.mp z
        simp [kLv] at this
      refine kwX3_init_86 hC hE ?_
      simp only [kbX3_init_86, mX3_init, kblk, kstp, kent, kpad, kget, kst1, kst2, kc2, cond_false, cond_true, kfv, kfit, kOkf, kputv, kputD, kputG, kcpy, kcat, kRR, kNN, true_and, and_true, if_true, if_false, if_pos, Nat.reduceAdd, Nat.reduceEqDiff, Nat.reduceLeDiff, Nat.reduceLT, reduceIte, Prod.mk.injEq, eq_self, false_and, and_false, reduceCtorEq, Nat.reduceSub, List.reverse_cons, List.reverse_nil, List.nil_append, List.cons_append, Option.toList_some, Option.toList_none, not_true_eq_false, not_false_eq_true]
      refine ⟨fun w => absurd w (nI_ge (a := l) (b := 4) (by omega) (by decide)), fun _ => ?_⟩
      refine kwX3_init_91 hC hE ?_
      simp only [kbX3_init_91, mX3_init, kblk, kstp, kent, kpad, kget, kst1, kst2, kc2, cond_false, cond_true, kfv, kfit, kOkf, kputv, kputD, kputG, kcpy, kcat, kRR, kNN, true_and, and_true, if_true, if_false, if_pos, Nat.reduceAdd, Nat.reduceEqDiff, Nat.reduceLeDiff, Nat.reduceLT, reduceIte, Prod.mk.injEq, eq_self, false_and, and_false, reduceCtorEq, Nat.reduceSub, List.reverse_cons, List.reverse_nil, List.nil_append, List.cons_append, Option.toList_some, Option.toList_none, not_true_eq_false, not_false_eq_true, r0, r2, kroom]
      refine ⟨(2, L, l), rfl, hno, by simp [kOkL, kOk, r0], by simp [kOkS, kOk, h11.1], by omega, by omega, ?_⟩
      have k1 : (knew M' (2, L, l) 0).1 (2, L, l) := Or.inl rfl
      have k2 : (knew M' (2, L, l) 0).1 (11, L, 0) := Or.inr h11.1
      have k0 : (knew M' (2, L, l) 0).1 (3, L, 0) := Or.inr r0
      have k4 : ¬ (knew M' (2, L, l) 0).1 (4, L, l + 1) := fun z => z.elim (neK (Or.inl (by decide))) hno4
      have k8 : ¬ (knew M' (2, L, l) 0).1 (8, L, l + 2) := fun z => z.elim (neK (Or.inl (by decide))) hno8
      refine KW_callIN hC (by decide +kernel) rfl kl3_47 (by decide) ((i_X2 k1 k4 k8)) rfl rfl (by simp [kOkL, kOk, k0]) (by simp [kOkS, kOk, k1, k2]) (Nat.le_of_ble_eq_true rfl) (by omega) (by omega) ?_
      rintro v M2 ⟨rfl, hM2⟩
      have h11' : kat M2 (11, L, 0) (kRf 20 l 0 (11, L, 0)) (kZv (11, L, 0)) 4 := by
        rw [hM2]
        exact ((((h11.new (x := (2, L, l)) (n2 := 0) (neK (Or.inl (by decide)))).new (neK (Or.inl (by decide)))).new (neK (Or.inl (by decide)))).putR (neK (Or.inl (by decide)))).putR (neK (Or.inl (by decide)))
      have p1 : M2.1 (2, L, l) := by rw [hM2]; exact Or.inr (Or.inr (Or.inl rfl))
      have p2 := h11'.1
      have p3 := h11'.2.2.2
      refine kwX3_init_103 hC hE ?_
      simp only [kbX3_init_103, mX3_init, kblk, kstp, kent, kpad, kget, kst1, kst2, kc2, cond_false, cond_true, kfv, kfit, kOkf, kputv, kputD, kputG, kcpy, kcat, kRR, kNN, true_and, and_true, if_true, if_false, if_pos, Nat.reduceAdd, Nat.reduceEqDiff, Nat.reduceLeDiff, Nat.reduceLT, reduceIte, Prod.mk.injEq, eq_self, false_and, and_false, reduceCtorEq, Nat.reduceSub, List.reverse_cons, List.reverse_nil, List.nil_append, List.cons_append, Option.toList_some, Option.toList_none, not_true_eq_false, not_false_eq_true, p1, p2, p3, kelem, hcl, nI_1, true_or, or_true]
      refine ⟨vp_in_nI (show l < 4 by omega) (by omega), ?_⟩
      refine KW.widen (by omega) (by omega) (ih (l + 1) _ (by omega) ?_)
      rw [hM2]
      exact hb.lane hL
  have chairs : ∀ (m c : Nat) (M' : KM), c + m = 20 → bInv M L c 0 0 M' → KW X 59 [some (kR (some (3, L, 0))), some (kI (nI c))] [] M' (6 + c) (161 + 5 * c) := by
    intro m
    induction m with
    | zero =>
      intro c M' hc hb
      have hc' : c = 20 := by omega
      subst hc'
      refine kwX3_init_59 hC hE ?_
      simp only [kbX3_init_59, mX3_init, kblk, kstp, kent, kpad, kget, kst1, kst2, kc2, cond_false, cond_true, kfv, kfit, kOkf, kputv, kputD, kputG, kcpy, kcat, kRR, kNN, true_and, and_true, if_true, if_false, if_pos, Nat.reduceAdd, Nat.reduceEqDiff, Nat.reduceLeDiff, Nat.reduceLT, reduceIte, Prod.mk.injEq, eq_self, false_and, and_false, reduceCtorEq, Nat.reduceSub, List.reverse_cons, List.reverse_nil, List.nil_append, List.cons_append, Option.toList_some, Option.toList_none, not_true_eq_false, not_false_eq_true]
      refine ⟨fun _ => ?_, fun w => absurd (by decide) w⟩
      refine kwX3_init_84 hC hE ?_
      simp only [kbX3_init_84, mX3_init, kblk, kstp, kent, kpad, kget, kst1, kst2, kc2, cond_false, cond_true, kfv, kfit, kOkf, kputv, kputD, kputG, kcpy, kcat, kRR, kNN, true_and, and_true, if_true, if_false, if_pos, Nat.reduceAdd, Nat.reduceEqDiff, Nat.reduceLeDiff, Nat.reduceLT, reduceIte, Prod.mk.injEq, eq_self, false_and, and_false, reduceCtorEq, Nat.reduceSub, List.reverse_cons, List.reverse_nil, List.nil_append, List.cons_append, Option.toList_some, Option.toList_none, not_true_eq_false, not_false_eq_true]
      exact lanes 4 0 M' (by omega) hb
    | succ m ih =>
      intro c M' hc hb
      have hcc := nI_clamp (show c < 2 ^ 31 by omega)
      obtain ⟨r0, r1, -, -⟩ := ref3 hb
      have h9 := hb.at (i := (9, L, 0)) rfl (by simp [kLv])
      have hno : ¬ M'.1 (0, L, c) := fun z => by
        have := (hb.2 (0, L, c) rfl).1.mp z
        simp [kLv] at this
      refine kwX3_init_59 hC hE ?_
      simp only [kbX3_init_59, mX3_init, kblk, kstp, kent, kpad, kget, kst1, kst2, kc2, cond_false, cond_true, kfv, kfit, kOkf, kputv, kputD, kputG, kcpy, kcat, kRR, kNN, true_and, and_true, if_true, if_false, if_pos, Nat.reduceAdd, Nat.reduceEqDiff, Nat.reduceLeDiff, Nat.reduceLT, reduceIte, Prod.mk.injEq, eq_self, false_and, and_false, reduceCtorEq, Nat.reduceSub, List.reverse_cons, List.reverse_nil, List.nil_append, List.cons_append, Option.toList_some, Option.toList_none, not_true_eq_false, not_false_eq_true]
      refine ⟨fun w => absurd w (nI_ge (a := c) (b := 20) (by omega) (by decide)), fun _ => ?_⟩
      refine kwX3_init_65 hC hE ?_
      simp only [kbX3_init_65, mX3_init, kblk, kstp, kent, kpad, kget, kst1, kst2, kc2, cond_false, cond_true, kfv, kfit, kOkf, kputv, kputD, kputG, kcpy, kcat, kRR, kNN, true_and, and_true, if_true, if_false, if_pos, Nat.reduceAdd, Nat.reduceEqDiff, Nat.reduceLeDiff, Nat.reduceLT, reduceIte, Prod.mk.injEq, eq_self, false_and, and_false, reduceCtorEq, Nat.reduceSub, List.reverse_cons, List.reverse_nil, List.nil_append, List.cons_append, Option.toList_some, Option.toList_none, not_true_eq_false, not_false_eq_true, r0, r1, kroom]
      refine ⟨(0, L, c), rfl, hno, by simp [kOkL, kOk, r0], by simp [kOkS, kOk, h9.1], by omega, by omega, ?_⟩
      have k1 : (knew M' (0, L, c) 0).1 (0, L, c) := Or.inl rfl
      have k2 : (knew M' (0, L, c) 0).1 (9, L, 0) := Or.inr h9.1
      have k0 : (knew M' (0, L, c) 0).1 (3, L, 0) := Or.inr r0
      have k3 : (knew M' (0, L, c) 0).2.2.2.2 (9, L, 0) = 20 := (h9.new (x := (0, L, c)) (n2 := 0) (neK (Or.inl (by decide)))).2.2.2
      refine KW_callIN hC (by decide +kernel) rfl kl3_46 (by decide) ((i_X0 k1)) rfl rfl (by simp [kOkL, kOk, k0]) (by simp [kOkS, kOk, k1, k2]) (Nat.le_of_ble_eq_true rfl) (by omega) (by omega) ?_
      rintro v M2 ⟨rfl, rfl⟩
      refine kwX3_init_77 hC hE ?_
      simp only [kbX3_init_77, mX3_init, kblk, kstp, kent, kpad, kget, kst1, kst2, kc2, cond_false, cond_true, kfv, kfit, kOkf, kputv, kputD, kputG, kcpy, kcat, kRR, kNN, true_and, and_true, if_true, if_false, if_pos, Nat.reduceAdd, Nat.reduceEqDiff, Nat.reduceLeDiff, Nat.reduceLT, reduceIte, Prod.mk.injEq, eq_self, false_and, and_false, reduceCtorEq, Nat.reduceSub, List.reverse_cons, List.reverse_nil, List.nil_append, List.cons_append, Option.toList_some, Option.toList_none, not_true_eq_false, not_false_eq_true, k1, k2, k3, kelem, hcc, nI_1, true_or, or_true]
      refine ⟨vp_in_nI (show c < 20 by omega) (by omega), ?_⟩
      exact KW.widen (by omega) (by omega) (ih (c + 1) _ (by omega) hb.chair)
  refine kwX3_init_0 hC hE ?_
  simp only [kbX3_init_0, mX3_init, kblk, kstp, kent, kpad, kget, kst1, kst2, kc2, cond_false, cond_true, kfv, kfit, kOkf, kputv, kputD, kputG, kcpy, kcat, kRR, kNN, true_and, and_true, if_true, if_false, if_pos, Nat.reduceAdd, Nat.reduceEqDiff, Nat.reduceLeDiff, Nat.reduceLT, reduceIte, Prod.mk.injEq, eq_self, false_and, and_false, reduceCtorEq, Nat.reduceSub, List.reverse_cons, List.reverse_nil, List.nil_append, List.cons_append, Option.toList_some, Option.toList_none, not_true_eq_false, not_false_eq_true, h, kroom]
  refine ⟨by decide, (8, L, 0), rfl, n8, by simp [kOkL, kOk, h], by simp [kOkS, kOk, h], by decide, by decide, by decide, ?_⟩
  simp only [kblk, kstp, kent, kpad, kget, kst1, kst2, kc2, cond_false, cond_true, kfv, kfit, kOkf, kputv, kputD, kputG, kcpy, kcat, kRR, kNN, true_and, and_true, if_true, if_false, if_pos, Nat.reduceAdd, Nat.reduceEqDiff, Nat.reduceLeDiff, Nat.reduceLT, reduceIte, Prod.mk.injEq, eq_self, false_and, and_false, reduceCtorEq, Nat.reduceSub, List.reverse_cons, List.reverse_nil, List.nil_append, List.cons_append, Option.toList_some, Option.toList_none, not_true_eq_false, not_false_eq_true, kblk, kstp, h, knew, kputR, or_true, true_or, kroom, c24a, cl20, cl91, cl4]
  refine ⟨(9, L, 0), rfl, by simp [n9], by simp [kOkL, kOk, h], by simp [kOkS, kOk, h], by decide, (11, L, 0), rfl, by simp [n11], by simp [kOkL, kOk, h], by simp [kOkS, kOk, h], by decide, (10, L, 0), rfl, by simp [n10], by simp [kOkL, kOk, h], by simp [kOkS, kOk, h], by decide, (4, L, 0), rfl, by simp [n4], by simp [kOkL, kOk, h], by simp [kOkS, kOk, h], ?_⟩
  show KW X 45 [some (kR (some (3, L, 0))), none] [kI 20, kR (some (4, L, 0)), kR (some (4, L, 0)), kR (some (3, L, 0))] (b5 M L) 5 141
  have m3 : (b5 M L).1 (3, L, 0) := Or.inr (Or.inr (Or.inr (Or.inr (Or.inr h))))
  have m4 : (b5 M L).1 (4, L, 0) := Or.inl rfl
  have m8 : ¬ (b5 M L).1 (8, L, 0 + 1) := by
    intro z
    rcases z with z | z | z | z | z | z
    · exact neK (Or.inl (by decide)) z
    · exact neK (Or.inl (by decide)) z
    · exact neK (Or.inl (by decide)) z
    · exact neK (Or.inl (by decide)) z
    · exact neK (Or.inr (by decide)) z
    · exact n81 z
  refine KW_callI hC (by decide +kernel) rfl kl3_35 (by decide) ((i_X4 (n := 20) m4 m8 (by decide) (by decide))) rfl rfl (by simp [kOkL, kOk, m3]) (by simp [kOkS, kOk, m3, m4]) (Nat.le_of_ble_eq_true rfl) (Nat.le_of_ble_eq_true rfl) (Nat.le_of_ble_eq_true rfl) ?_
  rintro v M2 ⟨rfl, hM2⟩
  have hM2' : M2 = b6 M L := hM2
  subst hM2'
  have p3 : (b6 M L).1 (3, L, 0) := Or.inr m3
  have p4 : (b6 M L).1 (4, L, 0) := Or.inr m4
  have q3 : ∀ o, (kputR (b6 M L) (3, L, 0) 4 o).1 (3, L, 0) := fun o => p3
  refine kwX3_init_48 hC hE ?_
  simp only [kbX3_init_48, mX3_init, kblk, kstp, kent, kpad, kget, kst1, kst2, kc2, cond_false, cond_true, kfv, kfit, kOkf, kputv, kputD, kputG, kcpy, kcat, kRR, kNN, true_and, and_true, if_true, if_false, if_pos, Nat.reduceAdd, Nat.reduceEqDiff, Nat.reduceLeDiff, Nat.reduceLT, reduceIte, Prod.mk.injEq, eq_self, false_and, and_false, reduceCtorEq, Nat.reduceSub, List.reverse_cons, List.reverse_nil, List.nil_append, List.cons_append, Option.toList_some, Option.toList_none, not_true_eq_false, not_false_eq_true, p3, p4, q3]
  exact chairs 20 0 _ (by omega) (bInv.base hL hM hfr)

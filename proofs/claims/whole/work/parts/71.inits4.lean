/-! The constructors of ChairLift and of the reference. -/
theorem kRf_end {i : KI} : kRf 20 4 91 i = kRR i := by
  obtain ⟨k, L, c⟩ := i
  funext j
  simp only [kRf]
  by_cases h9 : k = 9
  · subst h9; rw [if_pos rfl]; rfl
  · rw [if_neg h9]
    by_cases h10 : k = 10
    · subst h10; rw [if_pos rfl]; rfl
    · rw [if_neg h10]
      by_cases h11 : k = 11
      · subst h11; rw [if_pos rfl]; rfl
      · rw [if_neg h11]
def liftOK (L : Nat) (M' : KM) : Prop := ∀ i : KI, i.2.1 = L → (M'.1 i ↔ kLv 20 4 91 i) ∧ (kLv 20 4 91 i → M'.2.1 i = kRR i ∧ M'.2.2.1 i = kZv i ∧ M'.2.2.2.2 i = kNN i)
theorem liftOK.e {L : Nat} {M M' : KM} (h : liftOK L M) (he : ∀ i : KI, i.2.1 = L → kE i M M') : liftOK L M' := fun i hi => by
  obtain ⟨a, b, c, -, e⟩ := he i hi
  obtain ⟨p, q⟩ := h i hi
  exact ⟨a.trans p, fun w => by obtain ⟨q1, q2, q3⟩ := q w; exact ⟨b.trans q1, c.trans q2, e.trans q3⟩⟩
theorem i_X5 {M : KM} (hM : kat M (5, 9, 0) (fun _ => none) (fun _ => 0) 0) (hfr : ∀ i : KI, M.1 i → i = (5, 9, 0)) : SpQ mX5_init 260 2774 [kR (some (5, 9, 0))] M (fun v M' => v = none ∧ (∀ i : KI, M'.1 i → i.2.1 = 0 ∨ i.2.1 = 1 ∨ i = (5, 9, 0)) ∧ kat M' (5, 9, 0) (kRR (5, 9, 0)) (fun _ => 0) 0 ∧ liftOK 0 M' ∧ liftOK 1 M') := by
  refine SpQ_of (own := 5) (ini := true) (by decide +kernel) rfl (fun _ => rfl) (Nat.le_of_ble_eq_true rfl) ?_
  intro X hC hE hL0
  have h := hM.1
  have no : ∀ k c : Nat, ¬ M.1 (3, k, c) := fun k c z => absurd (congrArg Prod.fst (hfr _ z)) (by simp)
  have n30 := no 0 0
  have n31 := no 1 0
  have ne5 : ∀ {L k c : Nat}, L < 2 → ((5, 9, 0) : KI) ≠ (k, L, c) := fun hL z => by simp only [Prod.mk.injEq] at z; omega
  refine kwX5_init_0 hC hE ?_
  simp only [kbX5_init_0, mX5_init, kblk, kstp, kent, kpad, kget, kst1, kst2, kc2, cond_false, cond_true, kfv, kfit, kOkf, kputv, kputD, kputG, kcpy, kcat, kRR, kNN, true_and, and_true, if_true, if_false, if_pos, Nat.reduceAdd, Nat.reduceEqDiff, Nat.reduceLeDiff, Nat.reduceLT, reduceIte, Prod.mk.injEq, eq_self, false_and, and_false, reduceCtorEq, Nat.reduceSub, List.reverse_cons, List.reverse_nil, List.nil_append, List.cons_append, Option.toList_some, Option.toList_none, not_true_eq_false, not_false_eq_true, h, kroom]
  refine ⟨by decide, (3, 0, 0), rfl, n30, by simp [kOkL, kOk, h], by simp [kOkS, kOk, h], ?_⟩
  have k1 : (knew M (3, 0, 0) 0).1 (5, 9, 0) := Or.inr h
  have k2 : (knew M (3, 0, 0) 0).1 (3, 0, 0) := Or.inl rfl
  have f1 : ∀ i : KI, i.2.1 = 0 → (knew M (3, 0, 0) 0).1 i → i = (3, 0, 0) := fun i hi z => z.elim id (fun w => by rw [hfr i w] at hi; exact absurd hi (by decide))
  refine KW_callI hC (by decide +kernel) rfl kl5_11 (by decide) ((i_X3 (L := 0) (by decide) kat_new f1)) rfl rfl (by simp [kOkL, kOk, k1]) (by simp [kOkS, kOk, k1, k2]) (Nat.le_of_ble_eq_true rfl) (Nat.le_of_ble_eq_true rfl) (Nat.le_of_ble_eq_true rfl) ?_
  rintro v M2 ⟨rfl, hb⟩
  have h5 : kat M2 (5, 9, 0) (fun _ => none) (fun _ => 0) 0 := by
    have hh := hM.new (x := (3, 0, 0)) (n2 := 0) (ne5 (by decide))
    obtain ⟨a, b, c, -, e⟩ := hb.1 (5, 9, 0) (by decide)
    exact ⟨a.mpr hh.1, b.trans hh.2.1, c.trans hh.2.2.1, e.trans hh.2.2.2⟩
  have h3 : M2.1 (3, 0, 0) := ((hb.2 (3, 0, 0) rfl).1).mpr (by simp [kLv])
  have p5 := h5.1
  have q5 : ∀ o, (kputR M2 (5, 9, 0) 0 o).1 (5, 9, 0) := fun o => p5
  have f2 : ∀ i : KI, i.2.1 = 1 → ¬ M2.1 i := fun i hi z => by
    have := (hb.1 i (by omega)).1.mp z
    rcases this with w | w
    · rw [w] at hi; exact absurd hi (by decide)
    · rw [hfr i w] at hi; exact absurd hi (by decide)
  have n31' : ∀ o, ¬ (kputR M2 (5, 9, 0) 0 o).1 (3, 1, 0) := fun o => f2 (3, 1, 0) rfl
  refine kwX5_init_12 hC hE ?_
  simp only [kbX5_init_12, mX5_init, kblk, kstp, kent, kpad, kget, kst1, kst2, kc2, cond_false, cond_true, kfv, kfit, kOkf, kputv, kputD, kputG, kcpy, kcat, kRR, kNN, true_and, and_true, if_true, if_false, if_pos, Nat.reduceAdd, Nat.reduceEqDiff, Nat.reduceLeDiff, Nat.reduceLT, reduceIte, Prod.mk.injEq, eq_self, false_and, and_false, reduceCtorEq, Nat.reduceSub, List.reverse_cons, List.reverse_nil, List.nil_append, List.cons_append, Option.toList_some, Option.toList_none, not_true_eq_false, not_false_eq_true, p5, q5, h3, kroom]
  refine ⟨(3, 1, 0), rfl, n31' _, by simp [kOkL, kOk, q5], by simp [kOkS, kOk, q5], ?_⟩
  have k3 : ∀ o, (knew (kputR M2 (5, 9, 0) 0 o) (3, 1, 0) 0).1 (5, 9, 0) := fun o => Or.inr p5
  have k4 : ∀ o, (knew (kputR M2 (5, 9, 0) 0 o) (3, 1, 0) 0).1 (3, 1, 0) := fun o => Or.inl rfl
  have f3 : ∀ o, ∀ i : KI, i.2.1 = 1 → (knew (kputR M2 (5, 9, 0) 0 o) (3, 1, 0) 0).1 i → i = (3, 1, 0) := fun o i hi z => z.elim id (fun w => absurd w (f2 i hi))
  refine KW_callI hC (by decide +kernel) rfl kl5_11 (by decide) ((i_X3 (L := 1) (by decide) kat_new (f3 _))) rfl rfl (by simp [kOkL, kOk, k3]) (by simp [kOkS, kOk, k3, k4]) (Nat.le_of_ble_eq_true rfl) (Nat.le_of_ble_eq_true rfl) (Nat.le_of_ble_eq_true rfl) ?_
  rintro v M5 ⟨rfl, hb5⟩
  have e5 : M5.1 (5, 9, 0) := (hb5.1 (5, 9, 0) (by decide)).1.mpr (k3 _)
  have e3 : M5.1 (3, 1, 0) := ((hb5.2 (3, 1, 0) rfl).1).mpr (by simp [kLv])
  have q6 : ∀ o, (kputR M5 (5, 9, 0) 1 o).1 (5, 9, 0) := fun o => e5
  refine kwX5_init_23 hC hE ?_
  simp only [kbX5_init_23, mX5_init, kblk, kstp, kent, kpad, kget, kst1, kst2, kc2, cond_false, cond_true, kfv, kfit, kOkf, kputv, kputD, kputG, kcpy, kcat, kRR, kNN, true_and, and_true, if_true, if_false, if_pos, Nat.reduceAdd, Nat.reduceEqDiff, Nat.reduceLeDiff, Nat.reduceLT, reduceIte, Prod.mk.injEq, eq_self, false_and, and_false, reduceCtorEq, Nat.reduceSub, List.reverse_cons, List.reverse_nil, List.nil_append, List.cons_append, Option.toList_some, Option.toList_none, not_true_eq_false, not_false_eq_true, e5, e3, q6]
  refine ⟨⟨rfl, fun i hi => ?_, ?_, ?_, ?_⟩, trivial, by decide, by decide⟩
  · have hi5 : M5.1 i := hi
    by_cases h1 : i.2.1 = 1
    · exact Or.inr (Or.inl h1)
    · have z := (hb5.1 i h1).1.mp hi5
      rcases z with z | z
      · exact absurd (by rw [z]) h1
      · have z2 : M2.1 i := z
        by_cases h0 : i.2.1 = 0
        · exact Or.inl h0
        · have z3 := (hb.1 i h0).1.mp z2
          rcases z3 with z3 | z3
          · exact absurd (by rw [z3]) h0
          · exact Or.inr (Or.inr (hfr i z3))
  · have hh : kat (kputR M2 (5, 9, 0) 0 (some (3, 0, 0))) (5, 9, 0) _ _ _ := h5.R
    have hh2 := hh.new (x := (3, 1, 0)) (n2 := 0) (ne5 (by decide))
    obtain ⟨a, b, c, -, e⟩ := hb5.1 (5, 9, 0) (by decide)
    have hh3 : kat M5 (5, 9, 0) _ _ _ := ⟨a.mpr hh2.1, b.trans hh2.2.1, c.trans hh2.2.2.1, e.trans hh2.2.2.2⟩
    have hh4 := hh3.R (j := 1) (v := some (3, 1, 0))
    refine ⟨hh4.1, hh4.2.1.trans ?_, hh4.2.2.1, hh4.2.2.2⟩
    funext b
    match b with
    | 0 => rfl
    | 1 => rfl
    | b + 2 => simp [kRR]
  · have l0 : liftOK 0 M2 := fun i hi => by
      obtain ⟨a, b⟩ := hb.2 i hi
      exact ⟨a, fun w => by obtain ⟨b1, b2, b3⟩ := b w; exact ⟨b1.trans kRf_end, b2, b3⟩⟩
    refine l0.e (fun i hi => ?_)
    have n5 : i ≠ (5, 9, 0) := fun z => by rw [z] at hi; exact absurd hi (by decide)
    have n3 : i ≠ (3, 1, 0) := fun z => by rw [z] at hi; exact absurd hi (by decide)
    exact (((kE.rf.putR n5).new n3).tr (hb5.1 i (by omega))).putR n5
  · have l1 : liftOK 1 M5 := fun i hi => by
      obtain ⟨a, b⟩ := hb5.2 i hi
      exact ⟨a, fun w => by obtain ⟨b1, b2, b3⟩ := b w; exact ⟨b1.trans kRf_end, b2, b3⟩⟩
    refine l1.e (fun i hi => ?_)
    have n5 : i ≠ (5, 9, 0) := fun z => by rw [z] at hi; exact absurd hi (by decide)
    exact kE.rf.putR n5
/-- a state's cells, t of its arrays made -/
def nS (t : Nat) : Nat := if t < 3 then 20 else if t < 5 then 4 else if t = 5 then 364 else 91
def sM (M : KM) (P : Nat) : Nat → KM
  | 0 => kputR M (6, P, 0) 22 (some (7, 4, 0))
  | t + 1 => kputR (knew (sM M P t) (8, P, t + 9) (nS t)) (6, P, 0) (t + 9) (some (8, P, t + 9))
theorem sM_e {M : KM} {P : Nat} {i : KI} (hi : i.2.1 ≠ P) : ∀ t, kE i M (sM M P t)
  | 0 => kE.rf.putR (neL hi)
  | t + 1 => ((sM_e hi t).new (neL hi)).putR (neL hi)
theorem sM_6 {M : KM} {P : Nat} (hM : kat M (6, P, 0) (fun _ => none) (fun _ => 0) 0) : ∀ t, t ≤ 13 → kat (sM M P t) (6, P, 0) (fun b => if b = 22 then some (7, 4, 0) else if 9 ≤ b ∧ b < t + 9 then some (8, P, b) else none) (fun _ => 0) 0
  | 0, _ => by
    have h := hM.R (j := 22) (v := some (7, 4, 0))
    refine ⟨h.1, h.2.1.trans ?_, h.2.2⟩
    funext b
    by_cases hb : b = 22
    · rw [if_pos hb, if_pos hb]
    · rw [if_neg hb, if_neg hb, if_neg (by omega)]
  | t + 1, ht => by
    have h := ((sM_6 hM t (by omega)).new (x := (8, P, t + 9)) (n2 := nS t) (neK (Or.inl (by decide)))).R (j := t + 9) (v := some (8, P, t + 9))
    refine ⟨h.1, h.2.1.trans ?_, h.2.2⟩
    funext b
    by_cases hb : b = t + 9
    · rw [if_pos hb, if_neg (by omega), if_pos (by omega), hb]
    · rw [if_neg hb]
      by_cases hb2 : b = 22
      · rw [if_pos hb2, if_pos hb2]
      · rw [if_neg hb2, if_neg hb2]
        by_cases hb3 : 9 ≤ b ∧ b < t + 9
        · rw [if_pos hb3, if_pos (by omega)]
        · rw [if_neg hb3, if_neg (by omega)]
theorem sM_8 {M : KM} {P : Nat} : ∀ t k, k < t → kat (sM M P t) (8, P, k + 9) (fun _ => none) (fun _ => 0) (nS k)
  | 0, _, h => absurd h (by omega)
  | t + 1, k, h => by
    by_cases hk : k = t
    · subst hk
      exact kat_new.putR (neK (Or.inl (by decide)))
    · exact ((sM_8 t k (by omega)).new (neK (Or.inr (by omega)))).putR (neK (Or.inl (by decide)))
theorem sM_live {M : KM} {P : Nat} (hfr : ∀ i : KI, i.2.1 = P → M.1 i → i = (6, P, 0)) : ∀ t (i : KI), i.2.1 = P → (sM M P t).1 i → i = (6, P, 0) ∨ ∃ k, k < t ∧ i = (8, P, k + 9)
  | 0, i, hi, h => Or.inl (hfr i hi h)
  | t + 1, i, hi, h => by
    have h' : i = (8, P, t + 9) ∨ (sM M P t).1 i := h
    rcases h' with h' | h'
    · exact Or.inr ⟨t, by omega, h'⟩
    · rcases sM_live hfr t i hi h' with w | ⟨k, k1, k2⟩
      · exact Or.inl w
      · exact Or.inr ⟨k, by omega, k2⟩
theorem cl364 : (364 : Int32).toNatClampNeg = 364 := by decide
def stOK (P : Nat) (M' : KM) : Prop := kat M' (6, P, 0) (kRR (6, P, 0)) (fun _ => 0) 0 ∧ (∀ k, 9 ≤ k → k ≤ 21 → kat M' (8, P, k) (fun _ => none) (fun _ => 0) (kN8 P k)) ∧ ∀ i : KI, i.2.1 = P → M'.1 i → i.1 = 6 ∨ i.1 = 8
set_option maxRecDepth 20000 in
theorem i_X6 {M : KM} {P : Nat} (hP : P = 2 ∨ P = 3) (hM : kat M (6, P, 0) (fun _ => none) (fun _ => 0) 0) (h7 : M.1 (7, 4, 0)) (hfr : ∀ i : KI, i.2.1 = P → M.1 i → i = (6, P, 0)) : SpQ mX6_init 13 1069 [kR (some (6, P, 0)), kR (some (7, 4, 0))] M (fun v M' => v = none ∧ (∀ i : KI, i.2.1 ≠ P → kE i M M') ∧ stOK P M') := by
  refine SpQ_of (own := 6) (ini := true) (by decide +kernel) rfl (fun _ => rfl) (Nat.le_of_ble_eq_true rfl) ?_
  intro X hC hE hL0
  have h := hM.1
  have n8 : ∀ k, ¬ M.1 (8, P, k) := fun k z => absurd (congrArg Prod.fst (hfr _ rfl z)) (by simp)
  refine kwX6_init_0 hC hE ?_
  simp only [kbX6_init_0, mX6_init, kblk, kstp, kent, kpad, kget, kst1, kst2, kc2, cond_false, cond_true, kfv, kfit, kOkf, kputv, kputD, kputG, kcpy, kcat, kRR, kNN, true_and, and_true, if_true, if_false, if_pos, Nat.reduceAdd, Nat.reduceEqDiff, Nat.reduceLeDiff, Nat.reduceLT, reduceIte, Prod.mk.injEq, eq_self, false_and, and_false, reduceCtorEq, Nat.reduceSub, List.reverse_cons, List.reverse_nil, List.nil_append, List.cons_append, Option.toList_some, Option.toList_none, not_true_eq_false, not_false_eq_true, h, h7, kroom]
  refine ⟨by decide, (8, P, 9), rfl, n8 9, by simp [kOkL, kOk, h, h7, kputR], by simp [kOkS, kOk, h, h7, kputR], by decide, ?_⟩
  simp only [kblk, kstp, kent, kpad, kget, kst1, kst2, kc2, cond_false, cond_true, kfv, kfit, kOkf, kputv, kputD, kputG, kcpy, kcat, kRR, kNN, true_and, and_true, if_true, if_false, if_pos, Nat.reduceAdd, Nat.reduceEqDiff, Nat.reduceLeDiff, Nat.reduceLT, reduceIte, Prod.mk.injEq, eq_self, false_and, and_false, reduceCtorEq, Nat.reduceSub, List.reverse_cons, List.reverse_nil, List.nil_append, List.cons_append, Option.toList_some, Option.toList_none, not_true_eq_false, not_false_eq_true, kblk, kstp, h, h7, knew, kputR, or_true, true_or, kroom, cl20, cl91, cl4, cl364]
  refine ⟨(8, P, 10), rfl, by simp [n8], by simp [kOkL, kOk, h, h7], by simp [kOkS, kOk, h, h7], by decide, (8, P, 11), rfl, by simp [n8], by simp [kOkL, kOk, h, h7], by simp [kOkS, kOk, h, h7], by decide, (8, P, 12), rfl, by simp [n8], by simp [kOkL, kOk, h, h7], by simp [kOkS, kOk, h, h7], by decide, (8, P, 13), rfl, by simp [n8], by simp [kOkL, kOk, h, h7], by simp [kOkS, kOk, h, h7], by decide, (8, P, 14), rfl, by simp [n8], by simp [kOkL, kOk, h, h7], by simp [kOkS, kOk, h, h7], by decide, (8, P, 15), rfl, by simp [n8], by simp [kOkL, kOk, h, h7], by simp [kOkS, kOk, h, h7], by decide, (8, P, 16), rfl, by simp [n8], by simp [kOkL, kOk, h, h7], by simp [kOkS, kOk, h, h7], by decide, (8, P, 17), rfl, by simp [n8], by simp [kOkL, kOk, h, h7], by simp [kOkS, kOk, h, h7], by decide, (8, P, 18), rfl, by simp [n8], by simp [kOkL, kOk, h, h7], by simp [kOkS, kOk, h, h7], by decide, (8, P, 19), rfl, by simp [n8], by simp [kOkL, kOk, h, h7], by simp [kOkS, kOk, h, h7], by decide, (8, P, 20), rfl, by simp [n8], by simp [kOkL, kOk, h, h7], by simp [kOkS, kOk, h, h7], by decide, (8, P, 21), rfl, by simp [n8], by simp [kOkL, kOk, h, h7], by simp [kOkS, kOk, h, h7], by decide, ?_⟩
  have hfin : kEq mX6_init 13 1069 (fun v M' => v = none ∧ (∀ i : KI, i.2.1 ≠ P → kE i M M') ∧ stOK P M') none (sM M P 13) 13 1069 := by
    refine ⟨⟨rfl, fun i hi => sM_e hi 13, ?_, fun k h9 hk => ?_, fun i hi hl => ?_⟩, trivial, Nat.le_refl _, Nat.le_refl _⟩
    · have h6 := sM_6 hM 13 (Nat.le_refl _)
      refine ⟨h6.1, h6.2.1.trans ?_, h6.2.2⟩
      funext b
      by_cases hb : b = 22
      · subst hb; rfl
      · rw [if_neg hb]
        by_cases hb2 : 9 ≤ b ∧ b < 13 + 9
        · rw [if_pos hb2]
          have : b = 9 ∨ b = 10 ∨ b = 11 ∨ b = 12 ∨ b = 13 ∨ b = 14 ∨ b = 15 ∨ b = 16 ∨ b = 17 ∨ b = 18 ∨ b = 19 ∨ b = 20 ∨ b = 21 := by omega
          rcases this with rfl | rfl | rfl | rfl | rfl | rfl | rfl | rfl | rfl | rfl | rfl | rfl | rfl <;> rfl
        · rw [if_neg hb2]
          by_cases hb9 : b < 9
          · have : b = 0 ∨ b = 1 ∨ b = 2 ∨ b = 3 ∨ b = 4 ∨ b = 5 ∨ b = 6 ∨ b = 7 ∨ b = 8 := by omega
            rcases this with rfl | rfl | rfl | rfl | rfl | rfl | rfl | rfl | rfl <;> rfl
          · obtain ⟨c, rfl⟩ : ∃ c, b = c + 23 := ⟨b - 23, by omega⟩
            simp [kRR]
    · have h8 := sM_8 (M := M) (P := P) 13 (k - 9) (by omega)
      have e : k - 9 + 9 = k := by omega
      rw [e] at h8
      refine ⟨h8.1, h8.2.1, h8.2.2.1, h8.2.2.2.trans ?_⟩
      rw [kN8_P hP]
      unfold nS
      have : k = 9 ∨ k = 10 ∨ k = 11 ∨ k = 12 ∨ k = 13 ∨ k = 14 ∨ 15 ≤ k := by omega
      rcases this with rfl | rfl | rfl | rfl | rfl | rfl | hk15
      · rfl
      · rfl
      · rfl
      · rfl
      · rfl
      · rfl
      · rw [if_neg (by omega), if_neg (by omega), if_neg (by omega), if_neg (by omega), if_neg (by omega), if_neg (by omega)]
    · rcases sM_live hfr 13 i hi hl with w | ⟨k, -, w⟩
      · exact Or.inl (by rw [w])
      · exact Or.inr (by rw [w])
  exact hfin

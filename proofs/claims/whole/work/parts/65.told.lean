/-! The reference: what it tells of a group, a chair, a lane, in an array of its own. -/
abbrev km9 (n : Nat) (D : KI → Nat → Int32) (G : KI → Nat → Int64) : KM := ((fun a => a = (8, 9, 0) ∨ kLive a), kset kRR (8, 9, 0) (fun _ => none), D, G, kset kNN (8, 9, 0) n)
theorem no9 : ¬ kLive (8, 9, 0) := by
  intro h
  rcases h with ⟨h, -⟩ | ⟨h | h, -⟩ | ⟨h, -⟩ <;> omega
theorem k9_2 {D : KI → Nat → Int32} {j k b : Nat} {v : Int32} : kput D (8, 9, 0) j v (8, 2, k) b = D (8, 2, k) b := by simp [kput]
theorem k9_4 {D : KI → Nat → Int32} {j k b : Nat} {v : Int32} : kput D (8, 9, 0) j v (8, 4, k) b = D (8, 4, k) b := by simp [kput]
theorem k9_6 {D : KI → Nat → Int32} {j b : Nat} {v : Int32} : kput D (8, 9, 0) j v (6, 2, 0) b = D (6, 2, 0) b := by simp [kput]
theorem k9_7 {D : KI → Nat → Int32} {j b : Nat} {v : Int32} : kput D (8, 9, 0) j v (7, 4, 0) b = D (7, 4, 0) b := by simp [kput]
theorem s9_2 {α : Type} {f : KI → α} {k : Nat} {v : α} : kset f (8, 9, 0) v (8, 2, k) = f (8, 2, k) := by simp [kset]
theorem s9_4 {α : Type} {f : KI → α} {k : Nat} {v : α} : kset f (8, 9, 0) v (8, 4, k) = f (8, 4, k) := by simp [kset]
theorem s9_6 {α : Type} {f : KI → α} {v : α} : kset f (8, 9, 0) v (6, 2, 0) = f (6, 2, 0) := by simp [kset]
theorem s9_7 {α : Type} {f : KI → α} {v : α} : kset f (8, 9, 0) v (7, 4, 0) = f (7, 4, 0) := by simp [kset]
theorem s9_9 {α : Type} {f : KI → α} {v : α} : kset f (8, 9, 0) v (8, 9, 0) = v := by simp [kset]
/-- off the new array nothing changed -/
theorem ksub9 {n : Nat} {D D' : KI → Nat → Int32} {G G' : KI → Nat → Int64} (h : ∀ i, i ≠ (8, 9, 0) → D' i = D i) (hG : ∀ i, i ≠ (8, 9, 0) → G' i = G i) : KSub (km D G) (km9 n D' G') := by
  intro i hi
  have hne : i ≠ (8, 9, 0) := fun z => no9 (z ▸ hi)
  refine ⟨Or.inr hi, fun j => ?_, fun j => ?_, fun j => ?_, ?_, fun j r hr => kRR_live i j r hi hr⟩
  · show kRR i j = kset kRR (8, 9, 0) (fun _ => none) i j
    simp [kset, hne]
  · show D i j = D' i j
    rw [h i hne]
  · show G i j = G' i j
    rw [hG i hne]
  · show kNN i = kset kNN (8, 9, 0) n i
    simp [kset, hne]
theorem off9 {α : Type} {f : KI → α} {v : α} : ∀ i, i ≠ (8, 9, 0) → kset f (8, 9, 0) v i = f i := fun i hi => by simp [kset, hi]
theorem offp9 {D : KI → Nat → Int32} {j : Nat} {v : Int32} : ∀ i, i ≠ (8, 9, 0) → kput D (8, 9, 0) j v i = D i := fun i hi => by
  funext b
  simp [kput, hi]
theorem riders_sum {b h lo hi : Nat} {σ : KT} (hw : kWf0 b h lo hi σ) {c : Nat} (hc : c < tC σ) : tZ σ 2 c = isum (fun g => if tZ σ 12 g = 1 ∧ tZ σ 14 g = nI c then tZ σ 10 g else 0) (tG σ) ∧ tZ σ 3 c = isum (fun g => if tZ σ 12 g = 1 ∧ tZ σ 14 g = nI c then 1 else 0) (tG σ) := by
  obtain ⟨w1, w2, w3, w4, w5, w6, w7⟩ := hw
  obtain ⟨bC, -⟩ := w1.1
  have key : ∀ g, g < tG σ → tZ σ 14 g = nI c → tZ σ 12 g = 1 := by
    intro g hg hz
    rcases (w5 g hg).2 with ⟨-, a, -⟩ | ⟨a, -⟩ | ⟨-, -, a⟩
    · rw [a] at hz; exact absurd hz.symm (nI_m1 (by omega))
    · exact a
    · rw [a] at hz; exact absurd hz.symm (nI_m1 (by omega))
  rw [(w4 c hc).2.1, (w4 c hc).2.2.1]
  refine ⟨isum_congr _ (fun g hg => ?_), isum_congr _ (fun g hg => ?_)⟩ <;>
  · by_cases hz : tZ σ 14 g = nI c
    · rw [if_pos hz, if_pos ⟨key g hg hz, hz⟩]
    · rw [if_neg hz, if_neg (fun z => hz z.2)]
theorem cl2 : (2 : Int32).toNatClampNeg = 2 := by decide
theorem cl3 : (3 : Int32).toNatClampNeg = 3 := by decide
theorem cl4 : (4 : Int32).toNatClampNeg = 4 := by decide
theorem cl5 : (5 : Int32).toNatClampNeg = 5 := by decide
theorem cl6 : (6 : Int32).toNatClampNeg = 6 := by decide
theorem cl7 : (7 : Int32).toNatClampNeg = 7 := by decide
theorem cl8 : (8 : Int32).toNatClampNeg = 8 := by decide
theorem cl9 : (9 : Int32).toNatClampNeg = 9 := by decide
theorem cl10 : (10 : Int32).toNatClampNeg = 10 := by decide
theorem cl11 : (11 : Int32).toNatClampNeg = 11 := by decide
theorem cl12 : (12 : Int32).toNatClampNeg = 12 := by decide
theorem cl13 : (13 : Int32).toNatClampNeg = 13 := by decide
section TOLD
variable {D : KI → Nat → Int32} {G : KI → Nat → Int64} {σ : KT}
theorem m7_chairTold (ht : mTop D σ) (hm : mSt 2 D σ) {b hf : Nat} (hw : kWf0 b hf 0 hf σ) {c j : Nat} (hc : c < tC σ) (hj : j < 5) : SpQ mX7_chairTold 1 5 [kR (some (7, 4, 0)), kI (nI c), kI (nI j)] (km D G) (fun v M' => v = some (kI (tZ σ j c)) ∧ KSub (km D G) M') := by
  refine SpQ_of (own := 7) (ini := false) (by decide +kernel) rfl (by decide) (Nat.le_of_ble_eq_true rfl) ?_
  intro X hC hE hL0
  have h7 := mLive7
  have hx := mLive (P := 2) (Or.inl rfl)
  obtain ⟨bC, hL, hG91, bS, bQ⟩ := hw.1.1
  have l10 := mLive8 (P := 2) (k := 10) (Or.inl rfl) (by decide) (by decide)
  have n10 : kN8 2 10 = 20 := rfl
  have l11 := mLive8 (P := 2) (k := 11) (Or.inl rfl) (by decide) (by decide)
  have n11 : kN8 2 11 = 20 := rfl
  have l12 := mLive8 (P := 2) (k := 12) (Or.inl rfl) (by decide) (by decide)
  have n12 : kN8 2 12 = 4 := rfl
  have l13 := mLive8 (P := 2) (k := 13) (Or.inl rfl) (by decide) (by decide)
  have n13 : kN8 2 13 = 4 := rfl
  have l14 := mLive8 (P := 2) (k := 14) (Or.inl rfl) (by decide) (by decide)
  have n14 : kN8 2 14 = 364 := rfl
  have l15 := mLive8 (P := 2) (k := 15) (Or.inl rfl) (by decide) (by decide)
  have n15 : kN8 2 15 = 91 := rfl
  have l16 := mLive8 (P := 2) (k := 16) (Or.inl rfl) (by decide) (by decide)
  have n16 : kN8 2 16 = 91 := rfl
  have l17 := mLive8 (P := 2) (k := 17) (Or.inl rfl) (by decide) (by decide)
  have n17 : kN8 2 17 = 91 := rfl
  have l18 := mLive8 (P := 2) (k := 18) (Or.inl rfl) (by decide) (by decide)
  have n18 : kN8 2 18 = 91 := rfl
  have l19 := mLive8 (P := 2) (k := 19) (Or.inl rfl) (by decide) (by decide)
  have n19 : kN8 2 19 = 91 := rfl
  have l20 := mLive8 (P := 2) (k := 20) (Or.inl rfl) (by decide) (by decide)
  have n20 : kN8 2 20 = 91 := rfl
  have l21 := mLive8 (P := 2) (k := 21) (Or.inl rfl) (by decide) (by decide)
  have n21 : kN8 2 21 = 91 := rfl
  have l40 := mLive4 (k := 0) (by decide)
  have n40 : kN8 4 0 = 20 := rfl
  have l41 := mLive4 (k := 1) (by decide)
  have n41 : kN8 4 1 = 4 := rfl
  have hcc := nI_clamp (show c < 2 ^ 31 by omega)
  have hcj := nI_clamp (show j < 2 ^ 31 by omega)
  have q3 : D (6, 2, 0) 3 = nI (tG σ) := hm.1.2.2.2.1
  have q0 : D (8, 4, 0) c = tZ σ 0 c := ht.2.1 c hc
  have q10 : D (8, 2, 10) c = tZ σ 1 c := hm.2.2.1 c hc
  have q11 : D (8, 2, 11) c = tZ σ 4 c := hm.2.2.2.1 c (by omega)
  obtain ⟨r2, r3⟩ := riders_sum hw hc
  have fin : KW X 73 [some (kR (some (7, 4, 0))), some (kI (nI c)), some (kI (nI j)), some (kI (tZ σ 2 c)), some (kI (tZ σ 3 c)), none] [] (km D G) 0 0 := by
    refine kwX7_chairTold_73 hC hE ?_
    simp only [kbX7_chairTold_73, mX7_chairTold, kblk, kstp, kent, kpad, kget, kst1, kst2, kc2, cond_false, cond_true, kfv, kfit, kOkf, kputv, kputD, kputG, kcpy, kcat, kRR, kNN, true_and, and_true, if_true, if_false, if_pos, Nat.reduceAdd, Nat.reduceEqDiff, Nat.reduceLeDiff, Nat.reduceLT, reduceIte, Prod.mk.injEq, eq_self, false_and, and_false, reduceCtorEq, Nat.reduceSub, List.reverse_cons, List.reverse_nil, List.nil_append, List.cons_append, Option.toList_some, Option.toList_none, not_true_eq_false, not_false_eq_true, h7, kroom]
    refine ⟨(8, 9, 0), rfl, no9, by simp [kOkL, kOk, h7], by simp [kOkS], by decide, by decide, by decide, ?_⟩
    simp only [kblk, kstp, kent, kpad, kget, kst1, kst2, kc2, cond_false, cond_true, kfv, kfit, kOkf, kputv, kputD, kputG, kcpy, kcat, kRR, kNN, true_and, and_true, if_true, if_false, if_pos, Nat.reduceAdd, Nat.reduceEqDiff, Nat.reduceLeDiff, Nat.reduceLT, reduceIte, Prod.mk.injEq, eq_self, false_and, and_false, reduceCtorEq, Nat.reduceSub, List.reverse_cons, List.reverse_nil, List.nil_append, List.cons_append, Option.toList_some, Option.toList_none, not_true_eq_false, not_false_eq_true, kblk, kstp, h7, hx, l40, l10, l11, n40, n10, n11, hcc, hcj, q0, q10, q11, knew, s9_2, s9_4, s9_6, s9_7, s9_9, k9_2, k9_4, k9_6, k9_7, or_true, true_or, cl0, cl1, cl2, cl3, cl4, cl5, cl6, cl7, cl8, cl9, cl10, cl11, cl12, cl13]
    refine ⟨vp_in_nI (show c < 20 by omega) (by omega), vp_in_nI (show 0 < 5 by omega) (by omega), vp_in_nI (show c < 20 by omega) (by omega), vp_in_nI (show 1 < 5 by omega) (by omega), vp_in_nI (show 2 < 5 by omega) (by omega), vp_in_nI (show 3 < 5 by omega) (by omega), vp_in_nI (show c < 20 by omega) (by omega), vp_in_nI (show 4 < 5 by omega) (by omega), vp_in_nI (show j < 5 by omega) (by omega), ⟨?_, ksub9 (n := 5) (fun i hi => by rw [offp9 i hi, offp9 i hi, offp9 i hi, offp9 i hi, offp9 i hi, off9 i hi]) (fun i hi => off9 i hi)⟩, trivial, by decide, by decide⟩
    have : j = 0 ∨ j = 1 ∨ j = 2 ∨ j = 3 ∨ j = 4 := by omega
    rcases this with rfl | rfl | rfl | rfl | rfl <;> simp [kput]
  have loop : ∀ (m i : Nat), i + m = tG σ → KW X 8 [some (kR (some (7, 4, 0))), some (kI (nI c)), some (kI (nI j)), some (kI (isum (fun g => if tZ σ 12 g = 1 ∧ tZ σ 14 g = nI c then tZ σ 10 g else 0) i)), some (kI (isum (fun g => if tZ σ 12 g = 1 ∧ tZ σ 14 g = nI c then 1 else 0) i)), some (kI (nI i))] [] (km D G) 0 0 := by
    intro m
    induction m with
    | zero =>
      intro i him
      have hi : i = tG σ := by omega
      subst hi
      rw [← r2, ← r3]
      refine kwX7_chairTold_8 hC hE ?_
      simp only [kbX7_chairTold_8, mX7_chairTold, kblk, kstp, kent, kpad, kget, kst1, kst2, kc2, cond_false, cond_true, kfv, kfit, kOkf, kputv, kputD, kputG, kcpy, kcat, kRR, kNN, true_and, and_true, if_true, if_false, if_pos, Nat.reduceAdd, Nat.reduceEqDiff, Nat.reduceLeDiff, Nat.reduceLT, reduceIte, Prod.mk.injEq, eq_self, false_and, and_false, reduceCtorEq, Nat.reduceSub, List.reverse_cons, List.reverse_nil, List.nil_append, List.cons_append, Option.toList_some, Option.toList_none, not_true_eq_false, not_false_eq_true, h7, hx, q3]
      exact ⟨fun _ => KW.le (by simp [kLE]) fin, fun w => absurd (nI_le (Nat.le_refl _) (by omega)) w⟩
    | succ m ih =>
      intro i him
      have hi : i < tG σ := by omega
      have hci := nI_clamp (show i < 2 ^ 31 by omega)
      have hg := hm.2.2.2.2.2.2.2 i hi
      have q17 := hg.2.2.1
      have q15 := hg.1
      have q18 := hg.2.2.2.2.2.2.2
      have hgo := (hw.2.2.2.2.1 i hi).2
      have next : ∀ u v, u = (if tZ σ 12 i = 1 ∧ tZ σ 14 i = nI c then tZ σ 10 i else 0) → v = (if tZ σ 12 i = 1 ∧ tZ σ 14 i = nI c then 1 else 0) → KW X 67 [some (kR (some (7, 4, 0))), some (kI (nI c)), some (kI (nI j)), some (kI (isum (fun g => if tZ σ 12 g = 1 ∧ tZ σ 14 g = nI c then tZ σ 10 g else 0) i + u)), some (kI (isum (fun g => if tZ σ 12 g = 1 ∧ tZ σ 14 g = nI c then 1 else 0) i + v)), some (kI (nI i))] [] (km D G) 0 0 := by
        intro u v hu hv
        subst hu hv
        refine kwX7_chairTold_67 hC hE ?_
        simp only [kbX7_chairTold_67, mX7_chairTold, kblk, kstp, kent, kpad, kget, kst1, kst2, kc2, cond_false, cond_true, kfv, kfit, kOkf, kputv, kputD, kputG, kcpy, kcat, kRR, kNN, true_and, and_true, if_true, if_false, if_pos, Nat.reduceAdd, Nat.reduceEqDiff, Nat.reduceLeDiff, Nat.reduceLT, reduceIte, Prod.mk.injEq, eq_self, false_and, and_false, reduceCtorEq, Nat.reduceSub, List.reverse_cons, List.reverse_nil, List.nil_append, List.cons_append, Option.toList_some, Option.toList_none, not_true_eq_false, not_false_eq_true, nI_1]
        exact ih (i + 1) (by omega)
      have skip1 : ¬ (tZ σ 12 i = 1 ∧ tZ σ 14 i = nI c) → KW X 67 [some (kR (some (7, 4, 0))), some (kI (nI c)), some (kI (nI j)), some (kI (isum (fun g => if tZ σ 12 g = 1 ∧ tZ σ 14 g = nI c then tZ σ 10 g else 0) i)), some (kI (isum (fun g => if tZ σ 12 g = 1 ∧ tZ σ 14 g = nI c then 1 else 0) i)), some (kI (nI i))] [] (km D G) 0 0 := by
        intro hn
        have := next 0 0 (if_neg hn).symm (if_neg hn).symm
        rw [Int32.add_zero, Int32.add_zero] at this
        exact this
      refine kwX7_chairTold_8 hC hE ?_
      simp only [kbX7_chairTold_8, mX7_chairTold, kblk, kstp, kent, kpad, kget, kst1, kst2, kc2, cond_false, cond_true, kfv, kfit, kOkf, kputv, kputD, kputG, kcpy, kcat, kRR, kNN, true_and, and_true, if_true, if_false, if_pos, Nat.reduceAdd, Nat.reduceEqDiff, Nat.reduceLeDiff, Nat.reduceLT, reduceIte, Prod.mk.injEq, eq_self, false_and, and_false, reduceCtorEq, Nat.reduceSub, List.reverse_cons, List.reverse_nil, List.nil_append, List.cons_append, Option.toList_some, Option.toList_none, not_true_eq_false, not_false_eq_true, h7, hx, q3]
      refine ⟨fun w => absurd w (nI_ge hi (by omega)), fun _ => ?_⟩
      refine kwX7_chairTold_20 hC hE ?_
      simp only [kbX7_chairTold_20, mX7_chairTold, kblk, kstp, kent, kpad, kget, kst1, kst2, kc2, cond_false, cond_true, kfv, kfit, kOkf, kputv, kputD, kputG, kcpy, kcat, kRR, kNN, true_and, and_true, if_true, if_false, if_pos, Nat.reduceAdd, Nat.reduceEqDiff, Nat.reduceLeDiff, Nat.reduceLT, reduceIte, Prod.mk.injEq, eq_self, false_and, and_false, reduceCtorEq, Nat.reduceSub, List.reverse_cons, List.reverse_nil, List.nil_append, List.cons_append, Option.toList_some, Option.toList_none, not_true_eq_false, not_false_eq_true, h7, hx, l17, n17, hci, q17]
      refine ⟨vp_in_nI (show i < 91 by omega) (by omega), fun w => skip1 (fun z => w z.1), fun w => ?_⟩
      have q18' : D (8, 2, 18) i = tZ σ 14 i := by
        rcases hgo with ⟨a, -⟩ | ⟨-, -, c', hc', a⟩ | ⟨a, -⟩
        · rw [a] at w; exact absurd w (by decide)
        · exact q18 (by rw [a]; exact nI_m1 (by omega))
        · rcases a with a | a
          · rw [a] at w; exact absurd w (by decide)
          · rw [a] at w; exact absurd w (by decide)
      refine kwX7_chairTold_34 hC hE ?_
      simp only [kbX7_chairTold_34, mX7_chairTold, kblk, kstp, kent, kpad, kget, kst1, kst2, kc2, cond_false, cond_true, kfv, kfit, kOkf, kputv, kputD, kputG, kcpy, kcat, kRR, kNN, true_and, and_true, if_true, if_false, if_pos, Nat.reduceAdd, Nat.reduceEqDiff, Nat.reduceLeDiff, Nat.reduceLT, reduceIte, Prod.mk.injEq, eq_self, false_and, and_false, reduceCtorEq, Nat.reduceSub, List.reverse_cons, List.reverse_nil, List.nil_append, List.cons_append, Option.toList_some, Option.toList_none, not_true_eq_false, not_false_eq_true, h7, hx, l18, n18, hci, q18']
      refine ⟨vp_in_nI (show i < 91 by omega) (by omega), fun w2 => ?_, fun w2 => ?_⟩
      · refine kwX7_chairTold_51 hC hE ?_
        simp only [kbX7_chairTold_51, mX7_chairTold, kblk, kstp, kent, kpad, kget, kst1, kst2, kc2, cond_false, cond_true, kfv, kfit, kOkf, kputv, kputD, kputG, kcpy, kcat, kRR, kNN, true_and, and_true, if_true, if_false, if_pos, Nat.reduceAdd, Nat.reduceEqDiff, Nat.reduceLeDiff, Nat.reduceLT, reduceIte, Prod.mk.injEq, eq_self, false_and, and_false, reduceCtorEq, Nat.reduceSub, List.reverse_cons, List.reverse_nil, List.nil_append, List.cons_append, Option.toList_some, Option.toList_none, not_true_eq_false, not_false_eq_true, h7, hx, l15, n15, hci, q15]
        exact ⟨vp_in_nI (show i < 91 by omega) (by omega), next _ _ (if_pos ⟨w, w2⟩).symm (if_pos ⟨w, w2⟩).symm⟩
      · refine kwX7_chairTold_48 hC hE ?_
        simp only [kbX7_chairTold_48, mX7_chairTold, kblk, kstp, kent, kpad, kget, kst1, kst2, kc2, cond_false, cond_true, kfv, kfit, kOkf, kputv, kputD, kputG, kcpy, kcat, kRR, kNN, true_and, and_true, if_true, if_false, if_pos, Nat.reduceAdd, Nat.reduceEqDiff, Nat.reduceLeDiff, Nat.reduceLT, reduceIte, Prod.mk.injEq, eq_self, false_and, and_false, reduceCtorEq, Nat.reduceSub, List.reverse_cons, List.reverse_nil, List.nil_append, List.cons_append, Option.toList_some, Option.toList_none, not_true_eq_false, not_false_eq_true]
        exact skip1 (fun z => w2 z.2)
  refine kwX7_chairTold_0 hC hE ?_
  simp only [kbX7_chairTold_0, mX7_chairTold, kblk, kstp, kent, kpad, kget, kst1, kst2, kc2, cond_false, cond_true, kfv, kfit, kOkf, kputv, kputD, kputG, kcpy, kcat, kRR, kNN, true_and, and_true, if_true, if_false, if_pos, Nat.reduceAdd, Nat.reduceEqDiff, Nat.reduceLeDiff, Nat.reduceLT, reduceIte, Prod.mk.injEq, eq_self, false_and, and_false, reduceCtorEq, Nat.reduceSub, List.reverse_cons, List.reverse_nil, List.nil_append, List.cons_append, Option.toList_some, Option.toList_none, not_true_eq_false, not_false_eq_true]
  exact loop (tG σ) 0 (by omega)
theorem isum_list {f : Nat → Int32} {xs : List Nat} {n : Nat} (hnd : xs.Nodup) (hlt : ∀ x ∈ xs, x < n) : ∀ i, i ≤ xs.length → isum (fun k => f (xs[k]?.getD 0)) i = isum (fun g => if g ∈ xs.take i then f g else 0) n
  | 0, _ => by
    simp only [isum, List.take_zero]
    exact (isum_zero _ (fun g _ => if_neg (by simp))).symm
  | i + 1, hi => by
    have ih := isum_list (f := f) hnd hlt i (by omega)
    simp only [isum]
    rw [ih]
    have hx : xs[i]? = some xs[i] := List.getElem?_eq_getElem (by omega)
    rw [hx, Option.getD_some]
    have hnot : xs[i] ∉ xs.take i := by
      intro hmem
      obtain ⟨k, hk, hke⟩ := List.getElem_of_mem hmem
      rw [List.getElem_take] at hke
      have hk' : k < i := by
        have := List.length_take_le i xs
        omega
      exact List.pairwise_iff_getElem.mp hnd k i (by omega) (by omega) hk' hke
    have htake : xs.take (i + 1) = xs.take i ++ [xs[i]] := by
      rw [List.take_add_one, hx]; rfl
    refine (isum_upd (i := xs[i]) n (hlt _ (List.getElem_mem _)) (fun j _ => ?_)).symm
    rw [htake]
    by_cases hj : j = xs[i]
    · rw [if_pos hj, hj, if_pos (List.mem_append_right _ (List.mem_singleton.mpr rfl)), if_neg hnot, Int32.zero_add]
    · rw [if_neg hj]
      by_cases hjm : j ∈ xs.take i
      · rw [if_pos hjm, if_pos (List.mem_append_left _ hjm)]
      · rw [if_neg hjm, if_neg (fun z => by
          rcases List.mem_append.mp z with z | z
          · exact hjm z
          · exact hj (by simpa using z))]
theorem queue_sum {b h lo hi : Nat} {σ : KT} (hw : kWf0 b h lo hi σ) {l : Nat} (hl : l < tL σ) : isum (fun k => tZ σ 10 ((tQ σ l)[k]?.getD 0)) (tQ σ l).length = tInQueue σ (nI l) := by
  have bL := hw.1.1.2.1
  rw [isum_list (f := tZ σ 10) (hw.1.2.2.2.1 l hl).1 (hw.1.1.2.2.2.2 l hl) _ (Nat.le_refl _), List.take_length]
  refine isum_congr _ (fun g hg => ?_)
  by_cases hm : g ∈ tQ σ l
  · rw [if_pos hm, if_pos ((hw.1.2.2.2.1 l hl).2 g hm)]
  · rw [if_neg hm, if_neg (fun z => ?_)]
    rcases (hw.2.2.2.2.1 g hg).2 with ⟨-, -, l', hl', a, hm'⟩ | ⟨-, a, -⟩ | ⟨-, a, -⟩
    · rw [a] at z
      have := (nI_eq (by omega) (by omega)).mp z
      rw [this] at hm'
      exact hm hm'
    · rw [a] at z; exact nI_m1 (by omega) z.symm
    · rw [a] at z; exact nI_m1 (by omega) z.symm
theorem m7_laneTold (ht : mTop D σ) (hm : mSt 2 D σ) {b hf : Nat} (hw : kWf0 b hf 0 hf σ) {l j : Nat} (hl : l < tL σ) (hj : j < 4) : SpQ mX7_laneTold 1 4 [kR (some (7, 4, 0)), kI (nI l), kI (nI j)] (km D G) (fun v M' => v = some (kI (tLaneFact σ l j)) ∧ KSub (km D G) M') := by
  refine SpQ_of (own := 7) (ini := false) (by decide +kernel) rfl (by decide) (Nat.le_of_ble_eq_true rfl) ?_
  intro X hC hE hL0
  have h7 := mLive7
  have hx := mLive (P := 2) (Or.inl rfl)
  obtain ⟨bC, hL, hG91, bS, bQ⟩ := hw.1.1
  have l10 := mLive8 (P := 2) (k := 10) (Or.inl rfl) (by decide) (by decide)
  have n10 : kN8 2 10 = 20 := rfl
  have l11 := mLive8 (P := 2) (k := 11) (Or.inl rfl) (by decide) (by decide)
  have n11 : kN8 2 11 = 20 := rfl
  have l12 := mLive8 (P := 2) (k := 12) (Or.inl rfl) (by decide) (by decide)
  have n12 : kN8 2 12 = 4 := rfl
  have l13 := mLive8 (P := 2) (k := 13) (Or.inl rfl) (by decide) (by decide)
  have n13 : kN8 2 13 = 4 := rfl
  have l14 := mLive8 (P := 2) (k := 14) (Or.inl rfl) (by decide) (by decide)
  have n14 : kN8 2 14 = 364 := rfl
  have l15 := mLive8 (P := 2) (k := 15) (Or.inl rfl) (by decide) (by decide)
  have n15 : kN8 2 15 = 91 := rfl
  have l16 := mLive8 (P := 2) (k := 16) (Or.inl rfl) (by decide) (by decide)
  have n16 : kN8 2 16 = 91 := rfl
  have l17 := mLive8 (P := 2) (k := 17) (Or.inl rfl) (by decide) (by decide)
  have n17 : kN8 2 17 = 91 := rfl
  have l18 := mLive8 (P := 2) (k := 18) (Or.inl rfl) (by decide) (by decide)
  have n18 : kN8 2 18 = 91 := rfl
  have l19 := mLive8 (P := 2) (k := 19) (Or.inl rfl) (by decide) (by decide)
  have n19 : kN8 2 19 = 91 := rfl
  have l20 := mLive8 (P := 2) (k := 20) (Or.inl rfl) (by decide) (by decide)
  have n20 : kN8 2 20 = 91 := rfl
  have l21 := mLive8 (P := 2) (k := 21) (Or.inl rfl) (by decide) (by decide)
  have n21 : kN8 2 21 = 91 := rfl
  have l40 := mLive4 (k := 0) (by decide)
  have n40 : kN8 4 0 = 20 := rfl
  have l41 := mLive4 (k := 1) (by decide)
  have n41 : kN8 4 1 = 4 := rfl
  have hcl := nI_clamp (show l < 2 ^ 31 by omega)
  have hcj := nI_clamp (show j < 2 ^ 31 by omega)
  have hql := hw.1.qlen hl
  have q13 : D (8, 2, 13) l = nI (tQ σ l).length := hm.2.2.2.2.2.1 l (by omega)
  have q21 : D (8, 4, 1) l = tZ σ 21 l := ht.2.2.1 l (by omega)
  have q12 : D (8, 2, 12) l = tZ σ 22 l := hm.2.2.2.2.1 l (by omega)
  have fin : KW X 51 [some (kR (some (7, 4, 0))), some (kI (nI l)), some (kI (nI j)), some (kI (tInQueue σ (nI l))), none] [] (km D G) 0 0 := by
    refine kwX7_laneTold_51 hC hE ?_
    simp only [kbX7_laneTold_51, mX7_laneTold, kblk, kstp, kent, kpad, kget, kst1, kst2, kc2, cond_false, cond_true, kfv, kfit, kOkf, kputv, kputD, kputG, kcpy, kcat, kRR, kNN, true_and, and_true, if_true, if_false, if_pos, Nat.reduceAdd, Nat.reduceEqDiff, Nat.reduceLeDiff, Nat.reduceLT, reduceIte, Prod.mk.injEq, eq_self, false_and, and_false, reduceCtorEq, Nat.reduceSub, List.reverse_cons, List.reverse_nil, List.nil_append, List.cons_append, Option.toList_some, Option.toList_none, not_true_eq_false, not_false_eq_true, h7, kroom]
    refine ⟨(8, 9, 0), rfl, no9, by simp [kOkL, kOk, h7], by simp [kOkS], by decide, by decide, by decide, ?_⟩
    simp only [kblk, kstp, kent, kpad, kget, kst1, kst2, kc2, cond_false, cond_true, kfv, kfit, kOkf, kputv, kputD, kputG, kcpy, kcat, kRR, kNN, true_and, and_true, if_true, if_false, if_pos, Nat.reduceAdd, Nat.reduceEqDiff, Nat.reduceLeDiff, Nat.reduceLT, reduceIte, Prod.mk.injEq, eq_self, false_and, and_false, reduceCtorEq, Nat.reduceSub, List.reverse_cons, List.reverse_nil, List.nil_append, List.cons_append, Option.toList_some, Option.toList_none, not_true_eq_false, not_false_eq_true, kblk, kstp, h7, hx, l41, l12, l13, n41, n12, n13, hcl, hcj, q13, q21, q12, knew, s9_2, s9_4, s9_6, s9_7, s9_9, k9_2, k9_4, k9_6, k9_7, or_true, true_or, cl0, cl1, cl2, cl3, cl4, cl5, cl6, cl7, cl8, cl9, cl10, cl11, cl12, cl13]
    refine ⟨vp_in_nI (show l < 4 by omega) (by omega), vp_in_nI (show 0 < 4 by omega) (by omega), vp_in_nI (show 1 < 4 by omega) (by omega), vp_in_nI (show l < 4 by omega) (by omega), vp_in_nI (show 2 < 4 by omega) (by omega), vp_in_nI (show l < 4 by omega) (by omega), vp_in_nI (show 3 < 4 by omega) (by omega), vp_in_nI (show j < 4 by omega) (by omega), ⟨?_, ksub9 (n := 4) (fun i hi => by rw [offp9 i hi, offp9 i hi, offp9 i hi, offp9 i hi, off9 i hi]) (fun i hi => off9 i hi)⟩, trivial, by decide, by decide⟩
    have hbl := hw.2.2.2.2.2.2 l hl
    have e21 : tZ σ 21 l = if tZ σ 21 l = 0 then 0 else 1 := by
      rcases hbl with h | h
      · rw [h]; rfl
      · rw [h]; rfl
    have : j = 0 ∨ j = 1 ∨ j = 2 ∨ j = 3 := by omega
    rcases this with rfl | rfl | rfl | rfl
    · simp [kput, tLaneFact]
    · simp [kput, tLaneFact]
    · unfold tLaneFact
      rw [if_neg (by decide), if_neg (by decide), if_pos rfl, ← e21]
      simp [kput]
    · simp [kput, tLaneFact]
  have loop : ∀ (m i : Nat), i + m = (tQ σ l).length → KW X 5 [some (kR (some (7, 4, 0))), some (kI (nI l)), some (kI (nI j)), some (kI (isum (fun k => tZ σ 10 ((tQ σ l)[k]?.getD 0)) i)), some (kI (nI i))] [] (km D G) 0 0 := by
    intro m
    induction m with
    | zero =>
      intro i him
      have hi : i = (tQ σ l).length := by omega
      subst hi
      rw [queue_sum hw hl]
      refine kwX7_laneTold_5 hC hE ?_
      simp only [kbX7_laneTold_5, mX7_laneTold, kblk, kstp, kent, kpad, kget, kst1, kst2, kc2, cond_false, cond_true, kfv, kfit, kOkf, kputv, kputD, kputG, kcpy, kcat, kRR, kNN, true_and, and_true, if_true, if_false, if_pos, Nat.reduceAdd, Nat.reduceEqDiff, Nat.reduceLeDiff, Nat.reduceLT, reduceIte, Prod.mk.injEq, eq_self, false_and, and_false, reduceCtorEq, Nat.reduceSub, List.reverse_cons, List.reverse_nil, List.nil_append, List.cons_append, Option.toList_some, Option.toList_none, not_true_eq_false, not_false_eq_true, h7, hx, l13, n13, hcl, q13]
      exact ⟨vp_in_nI (show l < 4 by omega) (by omega), fun _ => KW.le (by simp [kLE]) fin, fun w => absurd (nI_le (Nat.le_refl _) (by omega)) w⟩
    | succ m ih =>
      intro i him
      have hi : i < (tQ σ l).length := by omega
      have q14 := hm.2.2.2.2.2.2.1 l (by omega) i _ (List.getElem?_eq_getElem hi)
      have hgx : (tQ σ l)[i] < tG σ := bQ l hl _ (List.getElem_mem hi)
      have q15 := (hm.2.2.2.2.2.2.2 _ hgx).1
      have hcg := nI_clamp (show (tQ σ l)[i] < 2 ^ 31 by omega)
      refine kwX7_laneTold_5 hC hE ?_
      simp only [kbX7_laneTold_5, mX7_laneTold, kblk, kstp, kent, kpad, kget, kst1, kst2, kc2, cond_false, cond_true, kfv, kfit, kOkf, kputv, kputD, kputG, kcpy, kcat, kRR, kNN, true_and, and_true, if_true, if_false, if_pos, Nat.reduceAdd, Nat.reduceEqDiff, Nat.reduceLeDiff, Nat.reduceLT, reduceIte, Prod.mk.injEq, eq_self, false_and, and_false, reduceCtorEq, Nat.reduceSub, List.reverse_cons, List.reverse_nil, List.nil_append, List.cons_append, Option.toList_some, Option.toList_none, not_true_eq_false, not_false_eq_true, h7, hx, l13, n13, hcl, q13]
      refine ⟨vp_in_nI (show l < 4 by omega) (by omega), fun w => absurd w (nI_ge hi (by omega)), fun _ => ?_⟩
      refine kwX7_laneTold_19 hC hE ?_
      simp only [kbX7_laneTold_19, mX7_laneTold, kblk, kstp, kent, kpad, kget, kst1, kst2, kc2, cond_false, cond_true, kfv, kfit, kOkf, kputv, kputD, kputG, kcpy, kcat, kRR, kNN, true_and, and_true, if_true, if_false, if_pos, Nat.reduceAdd, Nat.reduceEqDiff, Nat.reduceLeDiff, Nat.reduceLT, reduceIte, Prod.mk.injEq, eq_self, false_and, and_false, reduceCtorEq, Nat.reduceSub, List.reverse_cons, List.reverse_nil, List.nil_append, List.cons_append, Option.toList_some, Option.toList_none, not_true_eq_false, not_false_eq_true, h7, hx, l14, l15, n14, n15, e91, nI_clamp (show 91 * l + i < 2 ^ 31 by omega), q14, hcg, q15, nI_1]
      refine ⟨vp_in_nI (show 91 * l + i < 364 by omega) (by omega), vp_in_nI (show (tQ σ l)[i] < 91 by omega) (by omega), ?_⟩
      have hh := ih (i + 1) (by omega)
      simp only [isum] at hh
      rw [List.getElem?_eq_getElem hi, Option.getD_some] at hh
      exact hh
  refine kwX7_laneTold_0 hC hE ?_
  simp only [kbX7_laneTold_0, mX7_laneTold, kblk, kstp, kent, kpad, kget, kst1, kst2, kc2, cond_false, cond_true, kfv, kfit, kOkf, kputv, kputD, kputG, kcpy, kcat, kRR, kNN, true_and, and_true, if_true, if_false, if_pos, Nat.reduceAdd, Nat.reduceEqDiff, Nat.reduceLeDiff, Nat.reduceLT, reduceIte, Prod.mk.injEq, eq_self, false_and, and_false, reduceCtorEq, Nat.reduceSub, List.reverse_cons, List.reverse_nil, List.nil_append, List.cons_append, Option.toList_some, Option.toList_none, not_true_eq_false, not_false_eq_true]
  exact loop (tQ σ l).length 0 (by omega)
theorem m7_groupTold (hm : mSt 2 D σ) {b hf : Nat} (hw : kWf0 b hf 0 hf σ) {g j : Nat} (hg : g < tG σ) (hj : j < 8) : SpQ mX7_groupTold 1 8 [kR (some (7, 4, 0)), kI (nI g), kI (nI j)] (km D G) (fun v M' => v = some (kI (tZ σ (10 + j) g)) ∧ KSub (km D G) M') := by
  refine SpQ_of (own := 7) (ini := false) (by decide +kernel) rfl (by decide) (Nat.le_of_ble_eq_true rfl) ?_
  intro X hC hE hL0
  have h7 := mLive7
  have hx := mLive (P := 2) (Or.inl rfl)
  obtain ⟨bC, hL, hG91, bS, bQ⟩ := hw.1.1
  have l10 := mLive8 (P := 2) (k := 10) (Or.inl rfl) (by decide) (by decide)
  have n10 : kN8 2 10 = 20 := rfl
  have l11 := mLive8 (P := 2) (k := 11) (Or.inl rfl) (by decide) (by decide)
  have n11 : kN8 2 11 = 20 := rfl
  have l12 := mLive8 (P := 2) (k := 12) (Or.inl rfl) (by decide) (by decide)
  have n12 : kN8 2 12 = 4 := rfl
  have l13 := mLive8 (P := 2) (k := 13) (Or.inl rfl) (by decide) (by decide)
  have n13 : kN8 2 13 = 4 := rfl
  have l14 := mLive8 (P := 2) (k := 14) (Or.inl rfl) (by decide) (by decide)
  have n14 : kN8 2 14 = 364 := rfl
  have l15 := mLive8 (P := 2) (k := 15) (Or.inl rfl) (by decide) (by decide)
  have n15 : kN8 2 15 = 91 := rfl
  have l16 := mLive8 (P := 2) (k := 16) (Or.inl rfl) (by decide) (by decide)
  have n16 : kN8 2 16 = 91 := rfl
  have l17 := mLive8 (P := 2) (k := 17) (Or.inl rfl) (by decide) (by decide)
  have n17 : kN8 2 17 = 91 := rfl
  have l18 := mLive8 (P := 2) (k := 18) (Or.inl rfl) (by decide) (by decide)
  have n18 : kN8 2 18 = 91 := rfl
  have l19 := mLive8 (P := 2) (k := 19) (Or.inl rfl) (by decide) (by decide)
  have n19 : kN8 2 19 = 91 := rfl
  have l20 := mLive8 (P := 2) (k := 20) (Or.inl rfl) (by decide) (by decide)
  have n20 : kN8 2 20 = 91 := rfl
  have l21 := mLive8 (P := 2) (k := 21) (Or.inl rfl) (by decide) (by decide)
  have n21 : kN8 2 21 = 91 := rfl
  have l40 := mLive4 (k := 0) (by decide)
  have n40 : kN8 4 0 = 20 := rfl
  have l41 := mLive4 (k := 1) (by decide)
  have n41 : kN8 4 1 = 4 := rfl
  have hcg := nI_clamp (show g < 2 ^ 31 by omega)
  have hcj := nI_clamp (show j < 2 ^ 31 by omega)
  obtain ⟨q15, q16, q17, q19, q20, q21, q18a, q18b⟩ := hm.2.2.2.2.2.2.2 g hg
  have hgo := (hw.2.2.2.2.1 g hg).2
  have at82 : ∀ (D' : KI → Nat → Int32) (G' : KI → Nat → Int64) (v : Int32), (∀ i, i ≠ (8, 9, 0) → D' i = D i) → (∀ i, i ≠ (8, 9, 0) → G' i = G i) → (∀ k, k < 4 → D' (8, 9, 0) k = tZ σ (10 + k) g) → v = tZ σ 14 g → KW X 82 [some (kR (some (7, 4, 0))), some (kI (nI g)), some (kI (nI j)), some (kI (tZ σ 12 g)), none] [kI v, kI 4, kR (some (8, 9, 0)), kR (some (8, 9, 0))] (km9 8 D' G') 1 8 := by
    intro D' G' v ho hoG hk hv
    have p19 : D' (8, 2, 19) g = tZ σ 15 g := by rw [ho _ (by simp)]; exact q19
    have p20 : D' (8, 2, 20) g = tZ σ 16 g := by rw [ho _ (by simp)]; exact q20
    have p21 : D' (8, 2, 21) g = tZ σ 17 g := by rw [ho _ (by simp)]; exact q21
    refine kwX7_groupTold_82 hC hE ?_
    simp only [kbX7_groupTold_82, mX7_groupTold, kblk, kstp, kent, kpad, kget, kst1, kst2, kc2, cond_false, cond_true, kfv, kfit, kOkf, kputv, kputD, kputG, kcpy, kcat, kRR, kNN, true_and, and_true, if_true, if_false, if_pos, Nat.reduceAdd, Nat.reduceEqDiff, Nat.reduceLeDiff, Nat.reduceLT, reduceIte, Prod.mk.injEq, eq_self, false_and, and_false, reduceCtorEq, Nat.reduceSub, List.reverse_cons, List.reverse_nil, List.nil_append, List.cons_append, Option.toList_some, Option.toList_none, not_true_eq_false, not_false_eq_true, h7, hx, l19, l20, l21, n19, n20, n21, hcg, hcj, p19, p20, p21, knew, s9_2, s9_4, s9_6, s9_7, s9_9, k9_2, k9_4, k9_6, k9_7, or_true, true_or, cl0, cl1, cl2, cl3, cl4, cl5, cl6, cl7, cl8, cl9, cl10, cl11, cl12, cl13]
    refine ⟨vp_in_nI (show 4 < 8 by omega) (by omega), vp_in_nI (show g < 91 by omega) (by omega), vp_in_nI (show 5 < 8 by omega) (by omega), vp_in_nI (show g < 91 by omega) (by omega), vp_in_nI (show 6 < 8 by omega) (by omega), vp_in_nI (show g < 91 by omega) (by omega), vp_in_nI (show 7 < 8 by omega) (by omega), vp_in_nI (show j < 8 by omega) (by omega), ⟨?_, ksub9 (n := 8) (fun i hi => by rw [offp9 i hi, offp9 i hi, offp9 i hi, offp9 i hi]; exact ho i hi) hoG⟩, trivial, by decide, by decide⟩
    subst hv
    have : j < 4 ∨ j = 4 ∨ j = 5 ∨ j = 6 ∨ j = 7 := by omega
    rcases this with hlt | rfl | rfl | rfl | rfl
    · have := hk j hlt
      have n4 : ¬ j = 4 := by omega
      have n5 : ¬ j = 5 := by omega
      have n6 : ¬ j = 6 := by omega
      have n7 : ¬ j = 7 := by omega
      simp [kput, this, n4, n5, n6, n7]
    · simp [kput]
    · simp [kput]
    · simp [kput]
    · simp [kput]
  have at61 : ∀ (D' : KI → Nat → Int32) (G' : KI → Nat → Int64) (v : Int32), (∀ i, i ≠ (8, 9, 0) → D' i = D i) → (∀ i, i ≠ (8, 9, 0) → G' i = G i) → (∀ k, k < 3 → D' (8, 9, 0) k = tZ σ (10 + k) g) → v = tZ σ 13 g → KW X 61 [some (kR (some (7, 4, 0))), some (kI (nI g)), some (kI (nI j)), some (kI (tZ σ 12 g)), none] [kI v, kI 3, kR (some (8, 9, 0)), kR (some (8, 9, 0))] (km9 8 D' G') 1 8 := by
    intro D' G' v ho hoG hk hv
    have nx := fun u hu => at82 (kput D' (8, 9, 0) 3 v) G' u (fun i hi => (offp9 i hi).trans (ho i hi)) hoG (fun k hk4 => by
      by_cases h3 : k = 3
      · subst h3; simp [kput, hv]
      · have := hk k (by omega)
        simp [kput, h3, this]) hu
    refine kwX7_groupTold_61 hC hE ?_
    simp only [kbX7_groupTold_61, mX7_groupTold, kblk, kstp, kent, kpad, kget, kst1, kst2, kc2, cond_false, cond_true, kfv, kfit, kOkf, kputv, kputD, kputG, kcpy, kcat, kRR, kNN, true_and, and_true, if_true, if_false, if_pos, Nat.reduceAdd, Nat.reduceEqDiff, Nat.reduceLeDiff, Nat.reduceLT, reduceIte, Prod.mk.injEq, eq_self, false_and, and_false, reduceCtorEq, Nat.reduceSub, List.reverse_cons, List.reverse_nil, List.nil_append, List.cons_append, Option.toList_some, Option.toList_none, not_true_eq_false, not_false_eq_true, knew, s9_2, s9_4, s9_6, s9_7, s9_9, k9_2, k9_4, k9_6, k9_7, or_true, true_or, cl0, cl1, cl2, cl3, cl4, cl5, cl6, cl7, cl8, cl9, cl10, cl11, cl12, cl13]
    refine ⟨vp_in_nI (show 3 < 8 by omega) (by omega), fun w => ?_, fun w => ?_⟩
    · refine kwX7_groupTold_81 hC hE ?_
      simp only [kbX7_groupTold_81, mX7_groupTold, kblk, kstp, kent, kpad, kget, kst1, kst2, kc2, cond_false, cond_true, kfv, kfit, kOkf, kputv, kputD, kputG, kcpy, kcat, kRR, kNN, true_and, and_true, if_true, if_false, if_pos, Nat.reduceAdd, Nat.reduceEqDiff, Nat.reduceLeDiff, Nat.reduceLT, reduceIte, Prod.mk.injEq, eq_self, false_and, and_false, reduceCtorEq, Nat.reduceSub, List.reverse_cons, List.reverse_nil, List.nil_append, List.cons_append, Option.toList_some, Option.toList_none, not_true_eq_false, not_false_eq_true]
      refine nx (-1) ?_
      rcases hgo with ⟨-, a, -⟩ | ⟨a, -⟩ | ⟨-, -, a⟩
      · exact a.symm
      · exact absurd a w
      · exact a.symm
    · have p18 : D' (8, 2, 18) g = tZ σ 14 g := by
        rw [ho _ (by simp)]
        rcases hgo with ⟨a, -⟩ | ⟨-, -, c', hc', a⟩ | ⟨a, -⟩
        · rw [a] at w; exact absurd w (by decide)
        · exact q18b (by rw [a]; exact nI_m1 (by omega))
        · rcases a with a | a
          · rw [a] at w; exact absurd w (by decide)
          · rw [a] at w; exact absurd w (by decide)
      refine kwX7_groupTold_69 hC hE ?_
      simp only [kbX7_groupTold_69, mX7_groupTold, kblk, kstp, kent, kpad, kget, kst1, kst2, kc2, cond_false, cond_true, kfv, kfit, kOkf, kputv, kputD, kputG, kcpy, kcat, kRR, kNN, true_and, and_true, if_true, if_false, if_pos, Nat.reduceAdd, Nat.reduceEqDiff, Nat.reduceLeDiff, Nat.reduceLT, reduceIte, Prod.mk.injEq, eq_self, false_and, and_false, reduceCtorEq, Nat.reduceSub, List.reverse_cons, List.reverse_nil, List.nil_append, List.cons_append, Option.toList_some, Option.toList_none, not_true_eq_false, not_false_eq_true, h7, hx, l18, n18, hcg, p18, knew, s9_2, s9_4, s9_6, s9_7, s9_9, k9_2, k9_4, k9_6, k9_7, or_true, true_or, cl0, cl1, cl2, cl3, cl4, cl5, cl6, cl7, cl8, cl9, cl10, cl11, cl12, cl13]
      exact ⟨vp_in_nI (show g < 91 by omega) (by omega), nx _ rfl⟩
  refine kwX7_groupTold_0 hC hE ?_
  simp only [kbX7_groupTold_0, mX7_groupTold, kblk, kstp, kent, kpad, kget, kst1, kst2, kc2, cond_false, cond_true, kfv, kfit, kOkf, kputv, kputD, kputG, kcpy, kcat, kRR, kNN, true_and, and_true, if_true, if_false, if_pos, Nat.reduceAdd, Nat.reduceEqDiff, Nat.reduceLeDiff, Nat.reduceLT, reduceIte, Prod.mk.injEq, eq_self, false_and, and_false, reduceCtorEq, Nat.reduceSub, List.reverse_cons, List.reverse_nil, List.nil_append, List.cons_append, Option.toList_some, Option.toList_none, not_true_eq_false, not_false_eq_true, h7, hx, l17, n17, hcg, q17, kroom]
  refine ⟨vp_in_nI (show g < 91 by omega) (by omega), (8, 9, 0), rfl, no9, by simp [kOkL, kOk, h7], by simp [kOkS], by decide, by decide, by decide, ?_⟩
  simp only [kblk, kstp, kent, kpad, kget, kst1, kst2, kc2, cond_false, cond_true, kfv, kfit, kOkf, kputv, kputD, kputG, kcpy, kcat, kRR, kNN, true_and, and_true, if_true, if_false, if_pos, Nat.reduceAdd, Nat.reduceEqDiff, Nat.reduceLeDiff, Nat.reduceLT, reduceIte, Prod.mk.injEq, eq_self, false_and, and_false, reduceCtorEq, Nat.reduceSub, List.reverse_cons, List.reverse_nil, List.nil_append, List.cons_append, Option.toList_some, Option.toList_none, not_true_eq_false, not_false_eq_true, kblk, kstp, h7, hx, l15, l16, n15, n16, hcg, q15, q16, knew, s9_2, s9_4, s9_6, s9_7, s9_9, k9_2, k9_4, k9_6, k9_7, or_true, true_or, cl0, cl1, cl2, cl3, cl4, cl5, cl6, cl7, cl8, cl9, cl10, cl11, cl12, cl13]
  have nx := fun u hu => at61 (kput (kput (kput (kset D (8, 9, 0) (fun _ => 0)) (8, 9, 0) 0 (tZ σ 10 g)) (8, 9, 0) 1 (tZ σ 11 g)) (8, 9, 0) 2 (tZ σ 12 g)) (kset G (8, 9, 0) (fun _ => 0)) u (fun i hi => by rw [offp9 i hi, offp9 i hi, offp9 i hi, off9 i hi]) (fun i hi => off9 i hi) (fun k hk => by
    have : k = 0 ∨ k = 1 ∨ k = 2 := by omega
    rcases this with rfl | rfl | rfl <;> simp [kput]) hu
  refine ⟨vp_in_nI (show g < 91 by omega) (by omega), vp_in_nI (show 0 < 8 by omega) (by omega), vp_in_nI (show g < 91 by omega) (by omega), vp_in_nI (show 1 < 8 by omega) (by omega), vp_in_nI (show 2 < 8 by omega) (by omega), fun w => ?_, fun w => ?_⟩
  · refine kwX7_groupTold_60 hC hE ?_
    simp only [kbX7_groupTold_60, mX7_groupTold, kblk, kstp, kent, kpad, kget, kst1, kst2, kc2, cond_false, cond_true, kfv, kfit, kOkf, kputv, kputD, kputG, kcpy, kcat, kRR, kNN, true_and, and_true, if_true, if_false, if_pos, Nat.reduceAdd, Nat.reduceEqDiff, Nat.reduceLeDiff, Nat.reduceLT, reduceIte, Prod.mk.injEq, eq_self, false_and, and_false, reduceCtorEq, Nat.reduceSub, List.reverse_cons, List.reverse_nil, List.nil_append, List.cons_append, Option.toList_some, Option.toList_none, not_true_eq_false, not_false_eq_true]
    refine nx (-1) ?_
    rcases hgo with ⟨a, -⟩ | ⟨-, a, -⟩ | ⟨-, a, -⟩
    · exact absurd a w
    · exact a.symm
    · exact a.symm
  · obtain ⟨-, l, hl, a, -⟩ := gOK_wait (hw.2.2.2.2.1 g hg) w
    have p18 : D (8, 2, 18) g = tZ σ 13 g := q18a (by rw [a]; exact nI_m1 (by omega))
    refine kwX7_groupTold_48 hC hE ?_
    simp only [kbX7_groupTold_48, mX7_groupTold, kblk, kstp, kent, kpad, kget, kst1, kst2, kc2, cond_false, cond_true, kfv, kfit, kOkf, kputv, kputD, kputG, kcpy, kcat, kRR, kNN, true_and, and_true, if_true, if_false, if_pos, Nat.reduceAdd, Nat.reduceEqDiff, Nat.reduceLeDiff, Nat.reduceLT, reduceIte, Prod.mk.injEq, eq_self, false_and, and_false, reduceCtorEq, Nat.reduceSub, List.reverse_cons, List.reverse_nil, List.nil_append, List.cons_append, Option.toList_some, Option.toList_none, not_true_eq_false, not_false_eq_true, h7, hx, l18, n18, hcg, p18, knew, s9_2, s9_4, s9_6, s9_7, s9_9, k9_2, k9_4, k9_6, k9_7, or_true, true_or, cl0, cl1, cl2, cl3, cl4, cl5, cl6, cl7, cl8, cl9, cl10, cl11, cl12, cl13]
    exact ⟨vp_in_nI (show g < 91 by omega) (by omega), nx _ rfl⟩
end TOLD

/-! Lift: the rope and the top. -/
section ACTS2
variable {D : KI → Nat → Int32} {G : KI → Nat → Int64} {L : Nat} {σ : KT}
theorem lt_succ_ne {i j : Nat} (h : ¬ j = i) : (j < i + 1) = (j < i) := propext ⟨fun _ => by omega, fun _ => by omega⟩
theorem move_0 : moveTo σ 0 = σ := by
  unfold moveTo tMod
  have : (fun f i => if f = 1 ∧ i < 0 ∧ tZ σ 1 i ≠ -1 then mvT (tZ σ 38 0) (tZ σ 1 i) else tZ σ f i) = tZ σ := by
    funext f i; simp
  rw [this]; rfl
theorem move_no {i : Nat} (h : tZ σ 1 i = -1) : moveTo σ (i + 1) = moveTo σ i := by
  unfold moveTo tMod
  congr 1; congr 1
  funext f j
  by_cases hj : j = i
  · subst hj; simp [h]
  · simp only [lt_succ_ne hj]
theorem move_yes {i : Nat} (h : ¬ tZ σ 1 i = -1) : moveTo σ (i + 1) = tset (moveTo σ i) 1 i (mvT (tZ σ 38 0) (tZ σ 1 i)) := by
  unfold moveTo tMod tset
  congr 1; congr 1
  funext f j
  simp only [zup]
  by_cases hj : j = i
  · subst hj
    by_cases hf : f = 1
    · subst hf; simp [h]
    · simp [hf]
  · simp only [lt_succ_ne hj, hj, and_false, if_false]
theorem move_1 {i : Nat} : tZ (moveTo σ i) 1 i = tZ σ 1 i := by
  unfold moveTo
  rw [tZ_tMod]
  exact if_neg (fun z => absurd z.2.1 (Nat.lt_irrefl _))
theorem move_f {i f j : Nat} (hf : f ≠ 1) : tZ (moveTo σ i) f j = tZ σ f j := by
  unfold moveTo
  rw [tZ_tMod]
  exact if_neg (fun z => hf z.1)
theorem s_moveRope (hL : L < 2) (hr : kRep L D σ) (hb : kB σ) : SpQ mX3_moveRope 0 0 [kR (some (3, L, 0))] (km D G) (fun v M' => v = none ∧ kTo L D G (moveTo σ (tC σ)) M') := by
  refine SpQ_of (own := 3) (ini := false) (by decide +kernel) rfl (by decide) (Nat.le_of_ble_eq_true rfl) ?_
  intro X hC hE hL0
  have hb1 := hb.1
  have hlive : kLive (3, L, 0) := ⟨hL, rfl⟩
  have hlive9 : kLive (9, L, 0) := ⟨hL, rfl⟩
  have loop : ∀ (m i : Nat) (D' : KI → Nat → Int32), i + m = tC σ → kRep L D' (moveTo σ i) → kOff L D' D → KW X 2 [some (kR (some (3, L, 0))), some (kI (nI i)), none] [] (km D' G) 0 0 := by
    intro m
    induction m with
    | zero =>
      intro i D' him hr' ho
      have hi : i = tC σ := by omega
      subst hi
      have c5 : D' (3, L, 0) 5 = nI (tC σ) := hr'.old.1.1
      refine kwX3_moveRope_2 hC hE ?_
      simp only [kbX3_moveRope_2, mX3_moveRope, kblk, kstp, kent, kpad, kget, kst1, kst2, kc2, cond_false, cond_true, kfv, kfit, kOkf, kputv, kputD, kputG, kcpy, kcat, kRR, kNN, true_and, and_true, if_true, if_false, if_pos, Nat.reduceAdd, Nat.reduceEqDiff, Nat.reduceLeDiff, Nat.reduceLT, reduceIte, Prod.mk.injEq, eq_self, false_and, and_false, reduceCtorEq, Nat.reduceSub, List.reverse_cons, List.reverse_nil, List.nil_append, List.cons_append, Option.toList_some, Option.toList_none, not_true_eq_false, not_false_eq_true, hlive, c5]
      refine ⟨fun _ => ?_, fun h => absurd (nI_le (Nat.le_refl _) (by omega)) h⟩
      refine kwX3_moveRope_60 hC hE ?_
      simp only [kbX3_moveRope_60, mX3_moveRope, kblk, kstp, kent, kpad, kget, kst1, kst2, kc2, cond_false, cond_true, kfv, kfit, kOkf, kputv, kputD, kputG, kcpy, kcat, kRR, kNN, true_and, and_true, if_true, if_false, if_pos, Nat.reduceAdd, Nat.reduceEqDiff, Nat.reduceLeDiff, Nat.reduceLT, reduceIte, Prod.mk.injEq, eq_self, false_and, and_false, reduceCtorEq, Nat.reduceSub, List.reverse_cons, List.reverse_nil, List.nil_append, List.cons_append, Option.toList_some, Option.toList_none, not_true_eq_false, not_false_eq_true]
      exact ⟨⟨rfl, _, rfl, hr', ho⟩, trivial, Nat.le_refl _, Nat.le_refl _⟩
    | succ m ih =>
      intro i D' him hr' ho
      have hi : i < tC σ := by omega
      have hi20 : i < 20 := by omega
      have hli : kLive (0, L, i) := ⟨hL, hi20⟩
      have c5 : D' (3, L, 0) 5 = nI (tC σ) := hr'.old.1.1
      have h1 := hr'.old.2.2.1 i hi 1 (by decide)
      rw [move_1] at h1
      have h8 := hr'.old.2.1 8 (by decide) (by decide)
      rw [move_f (by decide)] at h8
      refine kwX3_moveRope_2 hC hE ?_
      simp only [kbX3_moveRope_2, mX3_moveRope, kblk, kstp, kent, kpad, kget, kst1, kst2, kc2, cond_false, cond_true, kfv, kfit, kOkf, kputv, kputD, kputG, kcpy, kcat, kRR, kNN, true_and, and_true, if_true, if_false, if_pos, Nat.reduceAdd, Nat.reduceEqDiff, Nat.reduceLeDiff, Nat.reduceLT, reduceIte, Prod.mk.injEq, eq_self, false_and, and_false, reduceCtorEq, Nat.reduceSub, List.reverse_cons, List.reverse_nil, List.nil_append, List.cons_append, Option.toList_some, Option.toList_none, not_true_eq_false, not_false_eq_true, hlive, c5]
      refine ⟨fun h => absurd h (nI_ge hi (by omega)), fun _ => ?_⟩
      refine kwX3_moveRope_10 hC hE ?_
      simp only [kbX3_moveRope_10, mX3_moveRope, kblk, kstp, kent, kpad, kget, kst1, kst2, kc2, cond_false, cond_true, kfv, kfit, kOkf, kputv, kputD, kputG, kcpy, kcat, kRR, kNN, true_and, and_true, if_true, if_false, if_pos, Nat.reduceAdd, Nat.reduceEqDiff, Nat.reduceLeDiff, Nat.reduceLT, reduceIte, Prod.mk.injEq, eq_self, false_and, and_false, reduceCtorEq, Nat.reduceSub, List.reverse_cons, List.reverse_nil, List.nil_append, List.cons_append, Option.toList_some, Option.toList_none, not_true_eq_false, not_false_eq_true, hlive, hlive9, nI_clamp (show i < 2 ^ 31 by omega), hi20, hli, h1, true_or, or_true]
      refine ⟨vp_in_nI hi20 (by omega), fun h => ?_, fun h => ?_⟩
      · refine kwX3_moveRope_54 hC hE ?_
        simp only [kbX3_moveRope_54, mX3_moveRope, kblk, kstp, kent, kpad, kget, kst1, kst2, kc2, cond_false, cond_true, kfv, kfit, kOkf, kputv, kputD, kputG, kcpy, kcat, kRR, kNN, true_and, and_true, if_true, if_false, if_pos, Nat.reduceAdd, Nat.reduceEqDiff, Nat.reduceLeDiff, Nat.reduceLT, reduceIte, Prod.mk.injEq, eq_self, false_and, and_false, reduceCtorEq, Nat.reduceSub, List.reverse_cons, List.reverse_nil, List.nil_append, List.cons_append, Option.toList_some, Option.toList_none, not_true_eq_false, not_false_eq_true, nI_1]
        exact KW.le (by simp [kLE]) (ih (i + 1) D' (by omega) (by rw [move_no h]; exact hr') ho)
      · have fin : KW X 51 [some (kR (some (3, L, 0))), some (kI (nI i)), some (kR (some (0, L, i)))] [kI (mvT (tZ σ 38 0) (tZ σ 1 i)), kR (some (0, L, i))] (km D' G) 0 0 := by
          refine kwX3_moveRope_51 hC hE ?_
          simp only [kbX3_moveRope_51, mX3_moveRope, kblk, kstp, kent, kpad, kget, kst1, kst2, kc2, cond_false, cond_true, kfv, kfit, kOkf, kputv, kputD, kputG, kcpy, kcat, kRR, kNN, true_and, and_true, if_true, if_false, if_pos, Nat.reduceAdd, Nat.reduceEqDiff, Nat.reduceLeDiff, Nat.reduceLT, reduceIte, Prod.mk.injEq, eq_self, false_and, and_false, reduceCtorEq, Nat.reduceSub, List.reverse_cons, List.reverse_nil, List.nil_append, List.cons_append, Option.toList_some, Option.toList_none, not_true_eq_false, not_false_eq_true, hli]
          refine kwX3_moveRope_54 hC hE ?_
          simp only [kbX3_moveRope_54, mX3_moveRope, kblk, kstp, kent, kpad, kget, kst1, kst2, kc2, cond_false, cond_true, kfv, kfit, kOkf, kputv, kputD, kputG, kcpy, kcat, kRR, kNN, true_and, and_true, if_true, if_false, if_pos, Nat.reduceAdd, Nat.reduceEqDiff, Nat.reduceLeDiff, Nat.reduceLT, reduceIte, Prod.mk.injEq, eq_self, false_and, and_false, reduceCtorEq, Nat.reduceSub, List.reverse_cons, List.reverse_nil, List.nil_append, List.cons_append, Option.toList_some, Option.toList_none, not_true_eq_false, not_false_eq_true, nI_1]
          exact KW.le (by simp [kLE]) (ih (i + 1) _ (by omega) (by rw [move_yes h]; exact rep_chair hr' i 1 _ (by decide)) (kOff.put.trans ho))
        refine kwX3_moveRope_25 hC hE ?_
        simp only [kbX3_moveRope_25, mX3_moveRope, kblk, kstp, kent, kpad, kget, kst1, kst2, kc2, cond_false, cond_true, kfv, kfit, kOkf, kputv, kputD, kputG, kcpy, kcat, kRR, kNN, true_and, and_true, if_true, if_false, if_pos, Nat.reduceAdd, Nat.reduceEqDiff, Nat.reduceLeDiff, Nat.reduceLT, reduceIte, Prod.mk.injEq, eq_self, false_and, and_false, reduceCtorEq, Nat.reduceSub, List.reverse_cons, List.reverse_nil, List.nil_append, List.cons_append, Option.toList_some, Option.toList_none, not_true_eq_false, not_false_eq_true, hlive, hli, h1, h8]
        refine ⟨fun h2 => ?_, fun h2 => ?_⟩
        · refine kwX3_moveRope_50 hC hE ?_
          simp only [kbX3_moveRope_50, mX3_moveRope, kblk, kstp, kent, kpad, kget, kst1, kst2, kc2, cond_false, cond_true, kfv, kfit, kOkf, kputv, kputD, kputG, kcpy, kcat, kRR, kNN, true_and, and_true, if_true, if_false, if_pos, Nat.reduceAdd, Nat.reduceEqDiff, Nat.reduceLeDiff, Nat.reduceLT, reduceIte, Prod.mk.injEq, eq_self, false_and, and_false, reduceCtorEq, Nat.reduceSub, List.reverse_cons, List.reverse_nil, List.nil_append, List.cons_append, Option.toList_some, Option.toList_none, not_true_eq_false, not_false_eq_true]
          have e : mvT (tZ σ 38 0) (tZ σ 1 i) = 0 := if_neg (Int32.not_lt.mpr h2)
          rw [e] at fin
          exact fin
        · refine kwX3_moveRope_41 hC hE ?_
          simp only [kbX3_moveRope_41, mX3_moveRope, kblk, kstp, kent, kpad, kget, kst1, kst2, kc2, cond_false, cond_true, kfv, kfit, kOkf, kputv, kputD, kputG, kcpy, kcat, kRR, kNN, true_and, and_true, if_true, if_false, if_pos, Nat.reduceAdd, Nat.reduceEqDiff, Nat.reduceLeDiff, Nat.reduceLT, reduceIte, Prod.mk.injEq, eq_self, false_and, and_false, reduceCtorEq, Nat.reduceSub, List.reverse_cons, List.reverse_nil, List.nil_append, List.cons_append, Option.toList_some, Option.toList_none, not_true_eq_false, not_false_eq_true, hli, h1]
          have e : mvT (tZ σ 38 0) (tZ σ 1 i) = tZ σ 1 i + 1 := if_pos (Int32.not_le.mp h2)
          rw [e] at fin
          exact fin
  refine kwX3_moveRope_0 hC hE ?_
  simp only [kbX3_moveRope_0, mX3_moveRope, kblk, kstp, kent, kpad, kget, kst1, kst2, kc2, cond_false, cond_true, kfv, kfit, kOkf, kputv, kputD, kputG, kcpy, kcat, kRR, kNN, true_and, and_true, if_true, if_false, if_pos, Nat.reduceAdd, Nat.reduceEqDiff, Nat.reduceLeDiff, Nat.reduceLT, reduceIte, Prod.mk.injEq, eq_self, false_and, and_false, reduceCtorEq, Nat.reduceSub, List.reverse_cons, List.reverse_nil, List.nil_append, List.cons_append, Option.toList_some, Option.toList_none, not_true_eq_false, not_false_eq_true]
  exact loop (tC σ) 0 D (by omega) (by rw [move_0]; exact hr) kOff.refl
theorem unl_0 {t : Int32} : unlTo σ t 0 = σ := by
  unfold unlTo tMod
  have : (fun f i => if (f = 12 ∨ f = 14 ∨ f = 16) ∧ i < 0 ∧ tZ σ 14 i = t then (if f = 12 then 2 else if f = 14 then -1 else tZ σ 41 0) else tZ σ f i) = tZ σ := by
    funext f i; simp
  rw [this]; rfl
theorem unl_no {t : Int32} {i : Nat} (h : ¬ tZ σ 14 i = t) : unlTo σ t (i + 1) = unlTo σ t i := by
  unfold unlTo tMod
  congr 1; congr 1
  funext f j
  by_cases hj : j = i
  · subst hj; simp [h]
  · simp only [lt_succ_ne hj]
theorem unl_yes {t : Int32} {i : Nat} (h : tZ σ 14 i = t) : unlTo σ t (i + 1) = tset (tset (tset (unlTo σ t i) 12 i 2) 14 i (-1)) 16 i (tZ σ 41 0) := by
  unfold unlTo tMod tset
  congr 1; congr 1
  funext f j
  simp only [zup]
  by_cases hj : j = i
  · subst hj
    by_cases h12 : f = 12
    · subst h12; simp [h]
    · by_cases h14 : f = 14
      · subst h14; simp [h]
      · by_cases h16 : f = 16
        · subst h16; simp [h]
        · simp [h12, h14, h16]
  · simp only [lt_succ_ne hj, hj, and_false, if_false]
theorem unl_14 {t : Int32} {i : Nat} : tZ (unlTo σ t i) 14 i = tZ σ 14 i := by
  unfold unlTo
  rw [tZ_tMod]
  exact if_neg (fun z => absurd z.2.1 (Nat.lt_irrefl _))
theorem unl_f {t : Int32} {i f j : Nat} (hf : f ≠ 12 ∧ f ≠ 14 ∧ f ≠ 16) : tZ (unlTo σ t i) f j = tZ σ f j := by
  unfold unlTo
  rw [tZ_tMod]
  exact if_neg (fun z => by
    obtain ⟨a, b, c⟩ := hf
    rcases z.1 with h | h | h
    · exact a h
    · exact b h
    · exact c h)
theorem s_unloadAtTop (hL : L < 2) (hr : kRep L D σ) (hb : kB σ) : SpQ mX3_unloadAtTop 0 0 [kR (some (3, L, 0))] (km D G) (fun v M' => v = some (kI (tUp σ)) ∧ kTo L D G (tUnload σ) M') := by
  refine SpQ_of (own := 3) (ini := false) (by decide +kernel) rfl (by decide) (Nat.le_of_ble_eq_true rfl) ?_
  intro X hC hE hL0
  have hb1 := hb.1
  have hb3 := hb.2.2.1
  have hlive : kLive (3, L, 0) := ⟨hL, rfl⟩
  have hlive9 : kLive (9, L, 0) := ⟨hL, rfl⟩
  have hlive10 : kLive (10, L, 0) := ⟨hL, rfl⟩
  have h8 := hr.old.2.1 8 (by decide) (by decide)
  refine kwX3_unloadAtTop_0 hC hE ?_
  simp only [kbX3_unloadAtTop_0, mX3_unloadAtTop, kblk, kstp, kent, kpad, kget, kst1, kst2, kc2, cond_false, cond_true, kfv, kfit, kOkf, kputv, kputD, kputG, kcpy, kcat, kRR, kNN, true_and, and_true, if_true, if_false, if_pos, Nat.reduceAdd, Nat.reduceEqDiff, Nat.reduceLeDiff, Nat.reduceLT, reduceIte, Prod.mk.injEq, eq_self, false_and, and_false, reduceCtorEq, Nat.reduceSub, List.reverse_cons, List.reverse_nil, List.nil_append, List.cons_append, Option.toList_some, Option.toList_none, not_true_eq_false, not_false_eq_true, hlive, h8]
  refine KW_callV hC (by decide +kernel) kl3_159 (by decide) ((s_chairAt hL hr hb (tZ σ 38 0))) rfl rfl (Nat.le_of_ble_eq_true rfl) rfl hlive (by simp [kOkL, kOk, hlive]) (by simp [kOkS]) (Nat.le_of_ble_eq_true rfl) (Nat.le_of_ble_eq_true rfl) (Nat.le_of_ble_eq_true rfl) ?_
  rintro v M' ⟨rfl, rfl⟩
  refine kwX3_unloadAtTop_8 hC hE ?_
  simp only [kbX3_unloadAtTop_8, mX3_unloadAtTop, kblk, kstp, kent, kpad, kget, kst1, kst2, kc2, cond_false, cond_true, kfv, kfit, kOkf, kputv, kputD, kputG, kcpy, kcat, kRR, kNN, true_and, and_true, if_true, if_false, if_pos, Nat.reduceAdd, Nat.reduceEqDiff, Nat.reduceLeDiff, Nat.reduceLT, reduceIte, Prod.mk.injEq, eq_self, false_and, and_false, reduceCtorEq, Nat.reduceSub, List.reverse_cons, List.reverse_nil, List.nil_append, List.cons_append, Option.toList_some, Option.toList_none, not_true_eq_false, not_false_eq_true]
  rcases chairAt_spec hb (p := tZ σ 38 0) with ⟨h1, -⟩ | ⟨c, hc, h2, h3, h4, h5⟩
  · refine ⟨fun h => absurd h1 h, fun h => ?_⟩
    refine kwX3_unloadAtTop_14 hC hE ?_
    simp only [kbX3_unloadAtTop_14, mX3_unloadAtTop, kblk, kstp, kent, kpad, kget, kst1, kst2, kc2, cond_false, cond_true, kfv, kfit, kOkf, kputv, kputD, kputG, kcpy, kcat, kRR, kNN, true_and, and_true, if_true, if_false, if_pos, Nat.reduceAdd, Nat.reduceEqDiff, Nat.reduceLeDiff, Nat.reduceLT, reduceIte, Prod.mk.injEq, eq_self, false_and, and_false, reduceCtorEq, Nat.reduceSub, List.reverse_cons, List.reverse_nil, List.nil_append, List.cons_append, Option.toList_some, Option.toList_none, not_true_eq_false, not_false_eq_true]
    exact ⟨⟨by unfold tUp; rw [if_pos h1], _, rfl, by unfold tUnload; rw [if_pos h1]; exact hr, kOff.refl⟩, trivial, Nat.le_refl _, Nat.le_refl _⟩
  · have hc20 : c < 20 := by omega
    have hlc : kLive (0, L, c) := ⟨hL, hc20⟩
    refine ⟨fun _ => ?_, fun h => absurd h h3⟩
    have loop : ∀ (m i : Nat) (D' : KI → Nat → Int32), i + m = tG σ → kRep L D' (unlTo σ (nI c) i) → kOff L D' D → KW X 18 [some (kR (some (3, L, 0))), some (kI (nI c)), some (kI (nI i))] [] (km D' G) 0 0 := by
      intro m
      induction m with
      | zero =>
        intro i D' him hr' ho
        have hi : i = tG σ := by omega
        subst hi
        have c7 : D' (3, L, 0) 7 = nI (tG σ) := hr'.old.1.2.2
        have hq := hr'.old.2.2.1 c hc 2 (by decide)
        rw [unl_f (by decide)] at hq
        refine kwX3_unloadAtTop_18 hC hE ?_
        simp only [kbX3_unloadAtTop_18, mX3_unloadAtTop, kblk, kstp, kent, kpad, kget, kst1, kst2, kc2, cond_false, cond_true, kfv, kfit, kOkf, kputv, kputD, kputG, kcpy, kcat, kRR, kNN, true_and, and_true, if_true, if_false, if_pos, Nat.reduceAdd, Nat.reduceEqDiff, Nat.reduceLeDiff, Nat.reduceLT, reduceIte, Prod.mk.injEq, eq_self, false_and, and_false, reduceCtorEq, Nat.reduceSub, List.reverse_cons, List.reverse_nil, List.nil_append, List.cons_append, Option.toList_some, Option.toList_none, not_true_eq_false, not_false_eq_true, hlive, c7]
        refine ⟨fun _ => ?_, fun h => absurd (nI_le (Nat.le_refl _) (by omega)) h⟩
        refine kwX3_unloadAtTop_78 hC hE ?_
        simp only [kbX3_unloadAtTop_78, mX3_unloadAtTop, kblk, kstp, kent, kpad, kget, kst1, kst2, kc2, cond_false, cond_true, kfv, kfit, kOkf, kputv, kputD, kputG, kcpy, kcat, kRR, kNN, true_and, and_true, if_true, if_false, if_pos, Nat.reduceAdd, Nat.reduceEqDiff, Nat.reduceLeDiff, Nat.reduceLT, reduceIte, Prod.mk.injEq, eq_self, false_and, and_false, reduceCtorEq, Nat.reduceSub, List.reverse_cons, List.reverse_nil, List.nil_append, List.cons_append, Option.toList_some, Option.toList_none, not_true_eq_false, not_false_eq_true, hlive, hlive9, nI_clamp (show c < 2 ^ 31 by omega), hc20, hlc, hq, true_or, or_true]
        refine ⟨vp_in_nI hc20 (by omega), vp_in_nI hc20 (by omega), vp_in_nI hc20 (by omega), ⟨?_, _, rfl, ?_, kOff.put.trans (kOff.put.trans ho)⟩, trivial, Nat.le_refl _, Nat.le_refl _⟩
        · unfold tUp
          rw [if_neg h3, h4]
        · unfold tUnload
          rw [if_neg h3, h4, h2]
          exact rep_chair (rep_chair hr' c 2 0 (by decide)) c 3 0 (by decide)
      | succ m ih =>
        intro i D' him hr' ho
        have hi : i < tG σ := by omega
        have hi91 : i < 91 := by omega
        have hli : kLive (1, L, i) := ⟨hL, hi91⟩
        have c7 : D' (3, L, 0) 7 = nI (tG σ) := hr'.old.1.2.2
        have h4 := hr'.old.2.2.2.1 i hi 4 (by decide)
        rw [unl_14] at h4
        have h11 := hr'.old.2.1 11 (by decide) (by decide)
        rw [unl_f (by decide)] at h11
        refine kwX3_unloadAtTop_18 hC hE ?_
        simp only [kbX3_unloadAtTop_18, mX3_unloadAtTop, kblk, kstp, kent, kpad, kget, kst1, kst2, kc2, cond_false, cond_true, kfv, kfit, kOkf, kputv, kputD, kputG, kcpy, kcat, kRR, kNN, true_and, and_true, if_true, if_false, if_pos, Nat.reduceAdd, Nat.reduceEqDiff, Nat.reduceLeDiff, Nat.reduceLT, reduceIte, Prod.mk.injEq, eq_self, false_and, and_false, reduceCtorEq, Nat.reduceSub, List.reverse_cons, List.reverse_nil, List.nil_append, List.cons_append, Option.toList_some, Option.toList_none, not_true_eq_false, not_false_eq_true, hlive, c7]
        refine ⟨fun h => absurd h (nI_ge hi (by omega)), fun _ => ?_⟩
        refine kwX3_unloadAtTop_26 hC hE ?_
        simp only [kbX3_unloadAtTop_26, mX3_unloadAtTop, kblk, kstp, kent, kpad, kget, kst1, kst2, kc2, cond_false, cond_true, kfv, kfit, kOkf, kputv, kputD, kputG, kcpy, kcat, kRR, kNN, true_and, and_true, if_true, if_false, if_pos, Nat.reduceAdd, Nat.reduceEqDiff, Nat.reduceLeDiff, Nat.reduceLT, reduceIte, Prod.mk.injEq, eq_self, false_and, and_false, reduceCtorEq, Nat.reduceSub, List.reverse_cons, List.reverse_nil, List.nil_append, List.cons_append, Option.toList_some, Option.toList_none, not_true_eq_false, not_false_eq_true, hlive, hlive10, nI_clamp (show i < 2 ^ 31 by omega), hi91, hli, h4, true_or, or_true]
        refine ⟨vp_in_nI hi91 (by omega), fun h => ?_, fun h => ?_⟩
        · refine kwX3_unloadAtTop_72 hC hE ?_
          simp only [kbX3_unloadAtTop_72, mX3_unloadAtTop, kblk, kstp, kent, kpad, kget, kst1, kst2, kc2, cond_false, cond_true, kfv, kfit, kOkf, kputv, kputD, kputG, kcpy, kcat, kRR, kNN, true_and, and_true, if_true, if_false, if_pos, Nat.reduceAdd, Nat.reduceEqDiff, Nat.reduceLeDiff, Nat.reduceLT, reduceIte, Prod.mk.injEq, eq_self, false_and, and_false, reduceCtorEq, Nat.reduceSub, List.reverse_cons, List.reverse_nil, List.nil_append, List.cons_append, Option.toList_some, Option.toList_none, not_true_eq_false, not_false_eq_true, nI_1]
          exact ih (i + 1) D' (by omega) (by rw [unl_no h]; exact hr') ho
        · have e11 : kput (kput D' (1, L, i) 2 2) (1, L, i) 4 (-1) (3, L, 0) 11 = tZ σ 41 0 := by simp [kput, h11]
          refine kwX3_unloadAtTop_39 hC hE ?_
          simp only [kbX3_unloadAtTop_39, mX3_unloadAtTop, kblk, kstp, kent, kpad, kget, kst1, kst2, kc2, cond_false, cond_true, kfv, kfit, kOkf, kputv, kputD, kputG, kcpy, kcat, kRR, kNN, true_and, and_true, if_true, if_false, if_pos, Nat.reduceAdd, Nat.reduceEqDiff, Nat.reduceLeDiff, Nat.reduceLT, reduceIte, Prod.mk.injEq, eq_self, false_and, and_false, reduceCtorEq, Nat.reduceSub, List.reverse_cons, List.reverse_nil, List.nil_append, List.cons_append, Option.toList_some, Option.toList_none, not_true_eq_false, not_false_eq_true, hlive, hlive10, nI_clamp (show i < 2 ^ 31 by omega), hi91, hli, e11, true_or, or_true]
          refine ⟨vp_in_nI hi91 (by omega), vp_in_nI hi91 (by omega), vp_in_nI hi91 (by omega), ?_⟩
          refine kwX3_unloadAtTop_72 hC hE ?_
          simp only [kbX3_unloadAtTop_72, mX3_unloadAtTop, kblk, kstp, kent, kpad, kget, kst1, kst2, kc2, cond_false, cond_true, kfv, kfit, kOkf, kputv, kputD, kputG, kcpy, kcat, kRR, kNN, true_and, and_true, if_true, if_false, if_pos, Nat.reduceAdd, Nat.reduceEqDiff, Nat.reduceLeDiff, Nat.reduceLT, reduceIte, Prod.mk.injEq, eq_self, false_and, and_false, reduceCtorEq, Nat.reduceSub, List.reverse_cons, List.reverse_nil, List.nil_append, List.cons_append, Option.toList_some, Option.toList_none, not_true_eq_false, not_false_eq_true, nI_1]
          exact ih (i + 1) _ (by omega) (by rw [unl_yes h]; exact rep_group (rep_group (rep_group hr' i 2 2 (by decide)) i 4 (-1) (by decide)) i 6 _ (by decide)) (kOff.put.trans (kOff.put.trans (kOff.put.trans ho)))
    rw [h2]
    refine kwX3_unloadAtTop_16 hC hE ?_
    simp only [kbX3_unloadAtTop_16, mX3_unloadAtTop, kblk, kstp, kent, kpad, kget, kst1, kst2, kc2, cond_false, cond_true, kfv, kfit, kOkf, kputv, kputD, kputG, kcpy, kcat, kRR, kNN, true_and, and_true, if_true, if_false, if_pos, Nat.reduceAdd, Nat.reduceEqDiff, Nat.reduceLeDiff, Nat.reduceLT, reduceIte, Prod.mk.injEq, eq_self, false_and, and_false, reduceCtorEq, Nat.reduceSub, List.reverse_cons, List.reverse_nil, List.nil_append, List.cons_append, Option.toList_some, Option.toList_none, not_true_eq_false, not_false_eq_true]
    exact loop (tG σ) 0 D (by omega) (by rw [unl_0]; exact hr) kOff.refl
end ACTS2

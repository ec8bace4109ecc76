/-! ChairLift: changing lanes, joining, passing time, the trial questions. -/
theorem in_within {x : Int32} {a b : Nat} (hb : b < 2 ^ 31) (h : nI a ≤ x ∧ x ≤ nI b) (ha : a < 2 ^ 31) : ∃ k, a ≤ k ∧ k ≤ b ∧ x = nI k := by
  obtain ⟨h1, h2⟩ := h
  rw [Int32.le_iff_toInt_le, nI_toInt ha] at h1
  rw [Int32.le_iff_toInt_le, nI_toInt hb] at h2
  refine ⟨x.toInt.toNat, by omega, by omega, ?_⟩
  rw [← Int32.toInt_inj, nI_toInt (by omega)]
  omega
theorem until_spec {g : Nat} : ∀ (m i : Nat) (σ : KT), tUntil g m i σ = -1 ∨ ∃ k, i ≤ k ∧ k < i + m ∧ tUntil g m i σ = nI k
  | 0, _, _ => Or.inl rfl
  | m + 1, i, σ => by
    simp only [tUntil]
    split
    · exact Or.inl rfl
    · split
      · exact Or.inr ⟨i, by omega, by omega, rfl⟩
      · rcases until_spec m (i + 1) (tStep σ) (g := g) with h | ⟨k, h1, h2, h3⟩
        · exact Or.inl h
        · exact Or.inr ⟨k, by omega, by omega, h3⟩
/-- the fewest chairs on the rope that bring p people up in s steps, among i, .. , i + m - 1 -/
def tNeeds (σ : KT) (p : Int32) (s : Nat) : Nat → Nat → Int32
  | 0, _ => -1
  | m + 1, i => if p ≤ tStepsUp s (tset σ 39 0 (nI i)) then nI i else tNeeds σ p s m (i + 1)
/-- the lane to join, among m lanes from i on -/
def tAdv (σ : KT) (z : Int32) : Nat → Nat → Int32 → Nat → Int32
  | 0, _, best, _ => best
  | m + 1, i, best, lm => if tZ σ 21 i = 0 then (if tUntil (tG σ) lm 1 (mkGroup σ i z 200) = -1 then tAdv σ z m (i + 1) best lm else tAdv σ z m (i + 1) (nI i) ((tUntil (tG σ) lm 1 (mkGroup σ i z 200)).toNatClampNeg - 1)) else tAdv σ z m (i + 1) best lm
section LIFT6
variable {D : KI → Nat → Int32} {G : KI → Nat → Int64} {σ : KT}
theorem kPub_1 (hr : kRep 0 D σ) {σ' : KT} {M' : KM} (h : kTo 1 D G σ' M') : kPub D G σ M' := by
  obtain ⟨D', h1, h2, h3⟩ := h
  exact ⟨D', h1, hr.off (by decide) h3, fun i _ h => h3 i h⟩
theorem s_pass (hr : kRep 0 D σ) (hs : kS σ) (n : Int32) : SpX mX5_pass 1 6 [kR (some (5, 9, 0)), kI n] (km D G) (fun v M' => ∃ k, 1 ≤ k ∧ k ≤ 200 ∧ n = nI k ∧ v = some (kI (tStepsUp k σ)) ∧ kPub D G (tSteps k σ) M') (fun E M' => (E = kIAE ∧ ¬ (1 ≤ n ∧ n ≤ 200)) ∧ M' = km D G) := by
  refine SpX_of (own := 5) (by decide +kernel) rfl (Nat.le_of_ble_eq_true rfl) ?_
  intro X hC hCX hE hL0 hTw hTh
  have hx := kx_live
  have hlive : kLive (3, 0, 0) := ⟨by decide, rfl⟩
  refine kwX5_pass_0 hC hE ?_
  simp only [kbX5_pass_0, mX5_pass, kblk, kstp, kent, kpad, kget, kst1, kst2, kc2, cond_false, cond_true, kfv, kfit, kOkf, kputv, kputD, kputG, kcpy, kcat, kRR, kNN, true_and, and_true, if_true, if_false, if_pos, Nat.reduceAdd, Nat.reduceEqDiff, Nat.reduceLeDiff, Nat.reduceLT, reduceIte, Prod.mk.injEq, eq_self, false_and, and_false, reduceCtorEq, Nat.reduceSub, List.reverse_cons, List.reverse_nil, List.nil_append, List.cons_append, Option.toList_some, Option.toList_none, not_true_eq_false, not_false_eq_true]
  refine KW_callS hC (by decide +kernel) kl5_19 (by decide) ((s_isWithin (km D G) n 1 200)) rfl rfl (by simp [kOkL, kOk, hx]) (by simp [kOkS]) (Nat.le_of_ble_eq_true rfl) (Nat.le_of_ble_eq_true rfl) (Nat.le_of_ble_eq_true rfl) ?_
  rintro v M' ⟨rfl, rfl⟩
  refine KW_callSX hC hCX (by decide +kernel) kl5_23 (by decide) ((s_requireArgument (km D G) _)) rfl rfl (by simp [kOkL, kOk, hx]) (by simp [kOkS]) (Nat.le_of_ble_eq_true rfl) (Nat.le_of_ble_eq_true rfl) (Nat.le_of_ble_eq_true rfl) ?_ ?_
  · rintro v M' ⟨rfl, rfl, h⟩
    obtain ⟨k, h1, h2, rfl⟩ := in_within (a := 1) (b := 200) (by decide) (b01_1 h) (by decide)
    refine kwX5_pass_11 hC hE ?_
    simp only [kbX5_pass_11, mX5_pass, kblk, kstp, kent, kpad, kget, kst1, kst2, kc2, cond_false, cond_true, kfv, kfit, kOkf, kputv, kputD, kputG, kcpy, kcat, kRR, kNN, true_and, and_true, if_true, if_false, if_pos, Nat.reduceAdd, Nat.reduceEqDiff, Nat.reduceLeDiff, Nat.reduceLT, reduceIte, Prod.mk.injEq, eq_self, false_and, and_false, reduceCtorEq, Nat.reduceSub, List.reverse_cons, List.reverse_nil, List.nil_append, List.cons_append, Option.toList_some, Option.toList_none, not_true_eq_false, not_false_eq_true, hx, hlive]
    refine KW_callV hC (by decide +kernel) kl5_141 (by decide) ((s_goSteps (by decide) hr hs (n := k) (by omega))) rfl rfl (Nat.le_of_ble_eq_true rfl) rfl hlive (by simp [kOkL, kOk, hx]) (by simp [kOkS]) (Nat.le_of_ble_eq_true rfl) (Nat.le_of_ble_eq_true rfl) (Nat.le_of_ble_eq_true rfl) ?_
    rintro v M' ⟨rfl, hp⟩
    refine kwX5_pass_19 hC hE ?_
    simp only [kbX5_pass_19, mX5_pass, kblk, kstp, kent, kpad, kget, kst1, kst2, kc2, cond_false, cond_true, kfv, kfit, kOkf, kputv, kputD, kputG, kcpy, kcat, kRR, kNN, true_and, and_true, if_true, if_false, if_pos, Nat.reduceAdd, Nat.reduceEqDiff, Nat.reduceLeDiff, Nat.reduceLT, reduceIte, Prod.mk.injEq, eq_self, false_and, and_false, reduceCtorEq, Nat.reduceSub, List.reverse_cons, List.reverse_nil, List.nil_append, List.cons_append, Option.toList_some, Option.toList_none, not_true_eq_false, not_false_eq_true]
    exact ⟨⟨k, h1, h2, rfl, rfl, kPub_0 hp⟩, trivial, Nat.le_refl _, Nat.le_refl _⟩
  · rintro E M' ⟨rfl, rfl, h⟩
    exact hTw _ _ _ _ _ ⟨⟨rfl, b01_0 h⟩, rfl⟩ (Nat.le_refl _) (Nat.le_refl _)
theorem s_when (hr : kRep 0 D σ) (hs : kS σ) (hbool : ∀ l, l < tL σ → tZ σ 21 l = 0 ∨ tZ σ 21 l = 1) (c : Int32) : SpX mX5_when 1 6 [kR (some (5, 9, 0)), kI c] (km D G) (fun v M' => (∃ g, g < tG σ ∧ c = nI g ∧ v = some (kI (if tZ σ 12 g = 2 then 0 else tUntil g 250 1 σ))) ∧ kPub D G σ M') (fun E M' => (E = kIOE ∧ ¬ (0 ≤ c ∧ c < nI (tG σ))) ∧ M' = km D G) := by
  refine SpX_of (own := 5) (by decide +kernel) rfl (Nat.le_of_ble_eq_true rfl) ?_
  intro X hC hCX hE hL0 hTw hTh
  have hx := kx_live
  have hlive : kLive (3, 0, 0) := ⟨by decide, rfl⟩
  have hlive1 : kLive (3, 1, 0) := ⟨by decide, rfl⟩
  have hc10 : kLive (10, 0, 0) := ⟨by decide, rfl⟩
  obtain ⟨bC, bL, bG⟩ := hr.1
  refine kwX5_when_0 hC hE ?_
  simp only [kbX5_when_0, mX5_when, kblk, kstp, kent, kpad, kget, kst1, kst2, kc2, cond_false, cond_true, kfv, kfit, kOkf, kputv, kputD, kputG, kcpy, kcat, kRR, kNN, true_and, and_true, if_true, if_false, if_pos, Nat.reduceAdd, Nat.reduceEqDiff, Nat.reduceLeDiff, Nat.reduceLT, reduceIte, Prod.mk.injEq, eq_self, false_and, and_false, reduceCtorEq, Nat.reduceSub, List.reverse_cons, List.reverse_nil, List.nil_append, List.cons_append, Option.toList_some, Option.toList_none, not_true_eq_false, not_false_eq_true]
  refine KW_callV hC (by decide +kernel) kl5_86 (by decide) ((s_isGroup hr c)) rfl rfl (Nat.le_of_ble_eq_true rfl) rfl hx (by simp [kOkL, kOk, hx]) (by simp [kOkS]) (Nat.le_of_ble_eq_true rfl) (Nat.le_of_ble_eq_true rfl) (Nat.le_of_ble_eq_true rfl) ?_
  rintro v M' ⟨rfl, rfl⟩
  refine KW_callSX hC hCX (by decide +kernel) kl5_58 (by decide) ((s_requireIndex (km D G) _)) rfl rfl (by simp [kOkL, kOk, hx]) (by simp [kOkS]) (Nat.le_of_ble_eq_true rfl) (Nat.le_of_ble_eq_true rfl) (Nat.le_of_ble_eq_true rfl) ?_ ?_
  · rintro v M' ⟨rfl, rfl, h⟩
    obtain ⟨g, hg, rfl⟩ := in_range (by omega) (b01_1 h)
    have hg91 : g < 91 := by omega
    have hlg : kLive (1, 0, g) := ⟨by decide, hg91⟩
    have hcl := nI_clamp (show g < 2 ^ 31 by omega)
    have h2 := hr.old.2.2.2.1 g hg 2 (by decide)
    refine kwX5_when_8 hC hE ?_
    simp only [kbX5_when_8, mX5_when, kblk, kstp, kent, kpad, kget, kst1, kst2, kc2, cond_false, cond_true, kfv, kfit, kOkf, kputv, kputD, kputG, kcpy, kcat, kRR, kNN, true_and, and_true, if_true, if_false, if_pos, Nat.reduceAdd, Nat.reduceEqDiff, Nat.reduceLeDiff, Nat.reduceLT, reduceIte, Prod.mk.injEq, eq_self, false_and, and_false, reduceCtorEq, Nat.reduceSub, List.reverse_cons, List.reverse_nil, List.nil_append, List.cons_append, Option.toList_some, Option.toList_none, not_true_eq_false, not_false_eq_true, hx, hlive, hc10, hlg, hcl, hg91, h2, true_or, or_true]
    refine ⟨vp_in_nI hg91 (by omega), fun hn => ?_, fun hn => ?_⟩
    · refine kwX5_when_26 hC hE ?_
      simp only [kbX5_when_26, mX5_when, kblk, kstp, kent, kpad, kget, kst1, kst2, kc2, cond_false, cond_true, kfv, kfit, kOkf, kputv, kputD, kputG, kcpy, kcat, kRR, kNN, true_and, and_true, if_true, if_false, if_pos, Nat.reduceAdd, Nat.reduceEqDiff, Nat.reduceLeDiff, Nat.reduceLT, reduceIte, Prod.mk.injEq, eq_self, false_and, and_false, reduceCtorEq, Nat.reduceSub, List.reverse_cons, List.reverse_nil, List.nil_append, List.cons_append, Option.toList_some, Option.toList_none, not_true_eq_false, not_false_eq_true, hx, hlive, hlive1]
      refine KW_callV hC (by decide +kernel) kl5_145 (by decide) ((s_Lift_copy hr hs hbool)) rfl rfl (Nat.le_of_ble_eq_true rfl) rfl hlive1 (by simp [kOkL, kOk, hx]) (by simp [kOkS]) (Nat.le_of_ble_eq_true rfl) (Nat.le_of_ble_eq_true rfl) (Nat.le_of_ble_eq_true rfl) ?_
      rintro v M' ⟨rfl, D1, rfl, hr1, ho1⟩
      refine kwX5_when_37 hC hE ?_
      simp only [kbX5_when_37, mX5_when, kblk, kstp, kent, kpad, kget, kst1, kst2, kc2, cond_false, cond_true, kfv, kfit, kOkf, kputv, kputD, kputG, kcpy, kcat, kRR, kNN, true_and, and_true, if_true, if_false, if_pos, Nat.reduceAdd, Nat.reduceEqDiff, Nat.reduceLeDiff, Nat.reduceLT, reduceIte, Prod.mk.injEq, eq_self, false_and, and_false, reduceCtorEq, Nat.reduceSub, List.reverse_cons, List.reverse_nil, List.nil_append, List.cons_append, Option.toList_some, Option.toList_none, not_true_eq_false, not_false_eq_true, hx]
      refine KW_callV hC (by decide +kernel) kl5_155 (by decide) ((s_stepsUntilUp (by decide) hr1 hs hg (n := 250) (by decide))) rfl rfl (Nat.le_of_ble_eq_true rfl) rfl hlive1 (by simp [kOkL, kOk, hx]) (by simp [kOkS]) (Nat.le_of_ble_eq_true rfl) (Nat.le_of_ble_eq_true rfl) (Nat.le_of_ble_eq_true rfl) ?_
      rintro v M' ⟨rfl, σ2, D2, rfl, hr2, ho2⟩
      refine kwX5_when_48 hC hE ?_
      simp only [kbX5_when_48, mX5_when, kblk, kstp, kent, kpad, kget, kst1, kst2, kc2, cond_false, cond_true, kfv, kfit, kOkf, kputv, kputD, kputG, kcpy, kcat, kRR, kNN, true_and, and_true, if_true, if_false, if_pos, Nat.reduceAdd, Nat.reduceEqDiff, Nat.reduceLeDiff, Nat.reduceLT, reduceIte, Prod.mk.injEq, eq_self, false_and, and_false, reduceCtorEq, Nat.reduceSub, List.reverse_cons, List.reverse_nil, List.nil_append, List.cons_append, Option.toList_some, Option.toList_none, not_true_eq_false, not_false_eq_true]
      exact ⟨⟨⟨g, hg, rfl, congrArg (fun x => some (kI x)) (if_neg hn).symm⟩, kPub_1 hr ⟨D2, rfl, hr2, ho2.trans ho1⟩⟩, trivial, Nat.le_refl _, Nat.le_refl _⟩
    · refine kwX5_when_24 hC hE ?_
      simp only [kbX5_when_24, mX5_when, kblk, kstp, kent, kpad, kget, kst1, kst2, kc2, cond_false, cond_true, kfv, kfit, kOkf, kputv, kputD, kputG, kcpy, kcat, kRR, kNN, true_and, and_true, if_true, if_false, if_pos, Nat.reduceAdd, Nat.reduceEqDiff, Nat.reduceLeDiff, Nat.reduceLT, reduceIte, Prod.mk.injEq, eq_self, false_and, and_false, reduceCtorEq, Nat.reduceSub, List.reverse_cons, List.reverse_nil, List.nil_append, List.cons_append, Option.toList_some, Option.toList_none, not_true_eq_false, not_false_eq_true]
      exact ⟨⟨⟨g, hg, rfl, congrArg (fun x => some (kI x)) (if_pos hn).symm⟩, D, rfl, hr, fun _ _ _ => rfl⟩, trivial, Nat.le_refl _, Nat.le_refl _⟩
  · rintro E M' ⟨rfl, rfl, h⟩
    exact hTw _ _ _ _ _ ⟨⟨rfl, b01_0 h⟩, rfl⟩ (Nat.le_refl _) (Nat.le_refl _)
theorem s_foresee (hr : kRep 0 D σ) (hs : kS σ) (hbool : ∀ l, l < tL σ → tZ σ 21 l = 0 ∨ tZ σ 21 l = 1) (n w : Int32) : SpX mX5_foresee 2 12 [kR (some (5, 9, 0)), kI n, kI w] (km D G) (fun v M' => (∃ k, 1 ≤ k ∧ k ≤ 150 ∧ n = nI k ∧ (0 ≤ w ∧ w < 3) ∧ v = some (kI (if w = 0 then tStepsUp k σ else if w = 1 then tPeople (tSteps k σ) 0 else tCold (tSteps k σ) - tCold σ))) ∧ kPub D G σ M') (fun E M' => ((E = kIAE ∧ ¬ (1 ≤ n ∧ n ≤ 150)) ∨ (E = kIOE ∧ (1 ≤ n ∧ n ≤ 150) ∧ ¬ (0 ≤ w ∧ w < 3))) ∧ M' = km D G) := by
  refine SpX_of (own := 5) (by decide +kernel) rfl (Nat.le_of_ble_eq_true rfl) ?_
  intro X hC hCX hE hL0 hTw hTh
  have hx := kx_live
  have hlive : kLive (3, 0, 0) := ⟨by decide, rfl⟩
  have hlive1 : kLive (3, 1, 0) := ⟨by decide, rfl⟩
  refine kwX5_foresee_0 hC hE ?_
  simp only [kbX5_foresee_0, mX5_foresee, kblk, kstp, kent, kpad, kget, kst1, kst2, kc2, cond_false, cond_true, kfv, kfit, kOkf, kputv, kputD, kputG, kcpy, kcat, kRR, kNN, true_and, and_true, if_true, if_false, if_pos, Nat.reduceAdd, Nat.reduceEqDiff, Nat.reduceLeDiff, Nat.reduceLT, reduceIte, Prod.mk.injEq, eq_self, false_and, and_false, reduceCtorEq, Nat.reduceSub, List.reverse_cons, List.reverse_nil, List.nil_append, List.cons_append, Option.toList_some, Option.toList_none, not_true_eq_false, not_false_eq_true]
  refine KW_callS hC (by decide +kernel) kl5_19 (by decide) ((s_isWithin (km D G) n 1 150)) rfl rfl (by simp [kOkL, kOk, hx]) (by simp [kOkS]) (Nat.le_of_ble_eq_true rfl) (Nat.le_of_ble_eq_true rfl) (Nat.le_of_ble_eq_true rfl) ?_
  rintro v M' ⟨rfl, rfl⟩
  refine KW_callSX hC hCX (by decide +kernel) kl5_23 (by decide) ((s_requireArgument (km D G) _)) rfl rfl (by simp [kOkL, kOk, hx]) (by simp [kOkS]) (Nat.le_of_ble_eq_true rfl) (Nat.le_of_ble_eq_true rfl) (Nat.le_of_ble_eq_true rfl) ?_ ?_
  · rintro v M' ⟨rfl, rfl, h⟩
    have hc := b01_1 h
    obtain ⟨k, h1, h2, rfl⟩ := in_within (a := 1) (b := 150) (by decide) hc (by decide)
    refine kwX5_foresee_11 hC hE ?_
    simp only [kbX5_foresee_11, mX5_foresee, kblk, kstp, kent, kpad, kget, kst1, kst2, kc2, cond_false, cond_true, kfv, kfit, kOkf, kputv, kputD, kputG, kcpy, kcat, kRR, kNN, true_and, and_true, if_true, if_false, if_pos, Nat.reduceAdd, Nat.reduceEqDiff, Nat.reduceLeDiff, Nat.reduceLT, reduceIte, Prod.mk.injEq, eq_self, false_and, and_false, reduceCtorEq, Nat.reduceSub, List.reverse_cons, List.reverse_nil, List.nil_append, List.cons_append, Option.toList_some, Option.toList_none, not_true_eq_false, not_false_eq_true]
    refine KW_callS hC (by decide +kernel) kl5_71 (by decide) ((s_isBelow (km D G) w 3)) rfl rfl (by simp [kOkL, kOk, hx]) (by simp [kOkS]) (Nat.le_of_ble_eq_true rfl) (Nat.le_of_ble_eq_true rfl) (Nat.le_of_ble_eq_true rfl) ?_
    rintro v M' ⟨rfl, rfl⟩
    refine KW_callSX hC hCX (by decide +kernel) kl5_58 (by decide) ((s_requireIndex (km D G) _)) rfl rfl (by simp [kOkL, kOk, hx]) (by simp [kOkS]) (Nat.le_of_ble_eq_true rfl) (Nat.le_of_ble_eq_true rfl) (Nat.le_of_ble_eq_true rfl) ?_ ?_
    · rintro v M' ⟨rfl, rfl, h⟩
      have hw := b01_1 h
      refine kwX5_foresee_19 hC hE ?_
      simp only [kbX5_foresee_19, mX5_foresee, kblk, kstp, kent, kpad, kget, kst1, kst2, kc2, cond_false, cond_true, kfv, kfit, kOkf, kputv, kputD, kputG, kcpy, kcat, kRR, kNN, true_and, and_true, if_true, if_false, if_pos, Nat.reduceAdd, Nat.reduceEqDiff, Nat.reduceLeDiff, Nat.reduceLT, reduceIte, Prod.mk.injEq, eq_self, false_and, and_false, reduceCtorEq, Nat.reduceSub, List.reverse_cons, List.reverse_nil, List.nil_append, List.cons_append, Option.toList_some, Option.toList_none, not_true_eq_false, not_false_eq_true, hx]
      refine KW_callV hC (by decide +kernel) kl5_145 (by decide) ((s_Lift_copy hr hs hbool)) rfl rfl (Nat.le_of_ble_eq_true rfl) rfl hlive1 (by simp [kOkL, kOk, hx]) (by simp [kOkS]) (Nat.le_of_ble_eq_true rfl) (Nat.le_of_ble_eq_true rfl) (Nat.le_of_ble_eq_true rfl) ?_
      rintro v M' ⟨rfl, D1, rfl, hr1, ho1⟩
      refine kwX5_foresee_30 hC hE ?_
      simp only [kbX5_foresee_30, mX5_foresee, kblk, kstp, kent, kpad, kget, kst1, kst2, kc2, cond_false, cond_true, kfv, kfit, kOkf, kputv, kputD, kputG, kcpy, kcat, kRR, kNN, true_and, and_true, if_true, if_false, if_pos, Nat.reduceAdd, Nat.reduceEqDiff, Nat.reduceLeDiff, Nat.reduceLT, reduceIte, Prod.mk.injEq, eq_self, false_and, and_false, reduceCtorEq, Nat.reduceSub, List.reverse_cons, List.reverse_nil, List.nil_append, List.cons_append, Option.toList_some, Option.toList_none, not_true_eq_false, not_false_eq_true, hx]
      refine KW_callV hC (by decide +kernel) kl5_141 (by decide) ((s_goSteps (by decide) hr1 hs (n := k) (by omega))) rfl rfl (Nat.le_of_ble_eq_true rfl) rfl hlive1 (by simp [kOkL, kOk, hx]) (by simp [kOkS]) (Nat.le_of_ble_eq_true rfl) (Nat.le_of_ble_eq_true rfl) (Nat.le_of_ble_eq_true rfl) ?_
      rintro v M' ⟨rfl, D2, rfl, hr2, ho2⟩
      have hs2 : kS (tSteps k σ) := by
        have : ∀ (m : Nat) (τ : KT), kS τ → kS (tSteps m τ) := by
          intro m
          induction m with
          | zero => intro τ h; exact h
          | succ m ih => intro τ h; exact ih _ h.step
        exact this k σ hs
      have hp : kPub D G σ (km D2 G) := kPub_1 hr ⟨D2, rfl, hr2, ho2.trans ho1⟩
      have hr0 : kRep 0 D2 σ := hr.off (by decide) (ho2.trans ho1)
      refine kwX5_foresee_38 hC hE ?_
      simp only [kbX5_foresee_38, mX5_foresee, kblk, kstp, kent, kpad, kget, kst1, kst2, kc2, cond_false, cond_true, kfv, kfit, kOkf, kputv, kputD, kputG, kcpy, kcat, kRR, kNN, true_and, and_true, if_true, if_false, if_pos, Nat.reduceAdd, Nat.reduceEqDiff, Nat.reduceLeDiff, Nat.reduceLT, reduceIte, Prod.mk.injEq, eq_self, false_and, and_false, reduceCtorEq, Nat.reduceSub, List.reverse_cons, List.reverse_nil, List.nil_append, List.cons_append, Option.toList_some, Option.toList_none, not_true_eq_false, not_false_eq_true, klook, Array.toList]
      refine ⟨fun hw0 => ?_, fun hn0 => ⟨fun hw1 => ?_, fun hn1 => ?_⟩⟩
      · have : w = 0 := by rw [← Int32.toInt_inj]; exact hw0
        subst this
        refine kwX5_foresee_68 hC hE ?_
        simp only [kbX5_foresee_68, mX5_foresee, kblk, kstp, kent, kpad, kget, kst1, kst2, kc2, cond_false, cond_true, kfv, kfit, kOkf, kputv, kputD, kputG, kcpy, kcat, kRR, kNN, true_and, and_true, if_true, if_false, if_pos, Nat.reduceAdd, Nat.reduceEqDiff, Nat.reduceLeDiff, Nat.reduceLT, reduceIte, Prod.mk.injEq, eq_self, false_and, and_false, reduceCtorEq, Nat.reduceSub, List.reverse_cons, List.reverse_nil, List.nil_append, List.cons_append, Option.toList_some, Option.toList_none, not_true_eq_false, not_false_eq_true]
        exact ⟨⟨⟨k, h1, h2, rfl, hw, rfl⟩, hp⟩, trivial, Nat.le_refl _, Nat.le_refl _⟩
      · have : w = 1 := by rw [← Int32.toInt_inj]; exact hw1
        subst this
        refine kwX5_foresee_70 hC hE ?_
        simp only [kbX5_foresee_70, mX5_foresee, kblk, kstp, kent, kpad, kget, kst1, kst2, kc2, cond_false, cond_true, kfv, kfit, kOkf, kputv, kputD, kputG, kcpy, kcat, kRR, kNN, true_and, and_true, if_true, if_false, if_pos, Nat.reduceAdd, Nat.reduceEqDiff, Nat.reduceLeDiff, Nat.reduceLT, reduceIte, Prod.mk.injEq, eq_self, false_and, and_false, reduceCtorEq, Nat.reduceSub, List.reverse_cons, List.reverse_nil, List.nil_append, List.cons_append, Option.toList_some, Option.toList_none, not_true_eq_false, not_false_eq_true, hx]
        refine KW_callV hC (by decide +kernel) kl5_149 (by decide) ((s_peopleWho (by decide) hr2 hs2.1 0)) rfl rfl (Nat.le_of_ble_eq_true rfl) rfl hlive1 (by simp [kOkL, kOk, hx]) (by simp [kOkS]) (Nat.le_of_ble_eq_true rfl) (Nat.le_of_ble_eq_true rfl) (Nat.le_of_ble_eq_true rfl) ?_
        rintro v M' ⟨rfl, rfl⟩
        refine kwX5_foresee_78 hC hE ?_
        simp only [kbX5_foresee_78, mX5_foresee, kblk, kstp, kent, kpad, kget, kst1, kst2, kc2, cond_false, cond_true, kfv, kfit, kOkf, kputv, kputD, kputG, kcpy, kcat, kRR, kNN, true_and, and_true, if_true, if_false, if_pos, Nat.reduceAdd, Nat.reduceEqDiff, Nat.reduceLeDiff, Nat.reduceLT, reduceIte, Prod.mk.injEq, eq_self, false_and, and_false, reduceCtorEq, Nat.reduceSub, List.reverse_cons, List.reverse_nil, List.nil_append, List.cons_append, Option.toList_some, Option.toList_none, not_true_eq_false, not_false_eq_true]
        exact ⟨⟨⟨k, h1, h2, rfl, hw, rfl⟩, hp⟩, trivial, Nat.le_refl _, Nat.le_refl _⟩
      · have n0 : ¬ w = 0 := fun z => hn0 (by rw [z]; rfl)
        have n1 : ¬ w = 1 := fun z => hn1 (by rw [z]; rfl)
        refine kwX5_foresee_79 hC hE ?_
        simp only [kbX5_foresee_79, mX5_foresee, kblk, kstp, kent, kpad, kget, kst1, kst2, kc2, cond_false, cond_true, kfv, kfit, kOkf, kputv, kputD, kputG, kcpy, kcat, kRR, kNN, true_and, and_true, if_true, if_false, if_pos, Nat.reduceAdd, Nat.reduceEqDiff, Nat.reduceLeDiff, Nat.reduceLT, reduceIte, Prod.mk.injEq, eq_self, false_and, and_false, reduceCtorEq, Nat.reduceSub, List.reverse_cons, List.reverse_nil, List.nil_append, List.cons_append, Option.toList_some, Option.toList_none, not_true_eq_false, not_false_eq_true, hx]
        refine KW_callV hC (by decide +kernel) kl5_152 (by decide) ((s_coldness (by decide) hr2 hs2.1)) rfl rfl (Nat.le_of_ble_eq_true rfl) rfl hlive1 (by simp [kOkL, kOk, hx]) (by simp [kOkS]) (Nat.le_of_ble_eq_true rfl) (Nat.le_of_ble_eq_true rfl) (Nat.le_of_ble_eq_true rfl) ?_
        rintro v M' ⟨rfl, rfl⟩
        refine kwX5_foresee_86 hC hE ?_
        simp only [kbX5_foresee_86, mX5_foresee, kblk, kstp, kent, kpad, kget, kst1, kst2, kc2, cond_false, cond_true, kfv, kfit, kOkf, kputv, kputD, kputG, kcpy, kcat, kRR, kNN, true_and, and_true, if_true, if_false, if_pos, Nat.reduceAdd, Nat.reduceEqDiff, Nat.reduceLeDiff, Nat.reduceLT, reduceIte, Prod.mk.injEq, eq_self, false_and, and_false, reduceCtorEq, Nat.reduceSub, List.reverse_cons, List.reverse_nil, List.nil_append, List.cons_append, Option.toList_some, Option.toList_none, not_true_eq_false, not_false_eq_true, hx]
        refine KW_callV hC (by decide +kernel) kl5_152 (by decide) ((s_coldness (by decide) hr0 hs.1)) rfl rfl (Nat.le_of_ble_eq_true rfl) rfl hlive (by simp [kOkL, kOk, hx]) (by simp [kOkS, kOk]) (Nat.le_of_ble_eq_true rfl) (Nat.le_of_ble_eq_true rfl) (Nat.le_of_ble_eq_true rfl) ?_
        rintro v M' ⟨rfl, rfl⟩
        refine kwX5_foresee_93 hC hE ?_
        simp only [kbX5_foresee_93, mX5_foresee, kblk, kstp, kent, kpad, kget, kst1, kst2, kc2, cond_false, cond_true, kfv, kfit, kOkf, kputv, kputD, kputG, kcpy, kcat, kRR, kNN, true_and, and_true, if_true, if_false, if_pos, Nat.reduceAdd, Nat.reduceEqDiff, Nat.reduceLeDiff, Nat.reduceLT, reduceIte, Prod.mk.injEq, eq_self, false_and, and_false, reduceCtorEq, Nat.reduceSub, List.reverse_cons, List.reverse_nil, List.nil_append, List.cons_append, Option.toList_some, Option.toList_none, not_true_eq_false, not_false_eq_true]
        refine ⟨⟨⟨k, h1, h2, rfl, hw, ?_⟩, hp⟩, trivial, Nat.le_refl _, Nat.le_refl _⟩
        rw [if_neg n0, if_neg n1]
    · rintro E M' ⟨rfl, rfl, h⟩
      exact hTw _ _ _ _ _ ⟨Or.inr ⟨rfl, hc, b01_0 h⟩, rfl⟩ (Nat.le_refl _) (Nat.le_refl _)
  · rintro E M' ⟨rfl, rfl, h⟩
    exact hTw _ _ _ _ _ ⟨Or.inl ⟨rfl, b01_0 h⟩, rfl⟩ (Nat.le_of_ble_eq_true rfl) (Nat.le_of_ble_eq_true rfl)
end LIFT6

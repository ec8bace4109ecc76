/-! Lift: the trial lift made a copy of the real one. -/
theorem kRep.off {L L' : Nat} {D D' : KI → Nat → Int32} {σ : KT} (h : kRep L D σ) (hne : L ≠ L') (ho : kOff L' D' D) : kRep L D' σ := by
  have e : ∀ a b, D' (a, L, b) = D (a, L, b) := fun a b => ho _ hne
  have row : ∀ k xs, rowRep D L k xs → rowRep D' L k xs := fun k xs hx => ⟨by rw [e]; exact hx.1, fun i x hi => by rw [e]; exact hx.2 i x hi⟩
  obtain ⟨bb, h1, h2, h3, h4, h5, h6, h7, h8⟩ := h
  exact ⟨bb, by rw [e]; exact h1, fun j a b => by rw [e]; exact h2 j a b, fun c hc j hj => by rw [e]; exact h3 c hc j hj, fun c hc j hj => by rw [e]; exact h4 c hc j hj, fun c hc j hj h => by rw [e]; exact h5 c hc j hj h, fun t ht => by rw [e]; exact h6 t ht, row _ _ h7, fun l hl => row _ _ (h8 l hl)⟩
theorem c24a : (24 : Int32).toNatClampNeg = 24 := by decide
theorem c24b : ¬ (24 : Int32) < 0 := by decide
section COPY
variable {D : KI → Nat → Int32} {G : KI → Nat → Int64} {σ : KT}
theorem s_Chair_copy {c : Nat} (hc : c < 20) : SpQ mX0_copyFrom 0 0 [kR (some (0, 1, c)), kR (some (0, 0, c))] (km D G) (fun v M' => v = none ∧ ∃ D', M' = km D' G ∧ (∀ j, j < 5 → D' (0, 1, c) j = D (0, 0, c) j) ∧ ∀ a, a ≠ (0, 1, c) → D' a = D a) := by
  refine SpQ_of (own := 0) (ini := false) (by decide +kernel) rfl (by decide) (Nat.le_of_ble_eq_true rfl) ?_
  intro X hC hE hL0
  have h0 : kLive (0, 0, c) := ⟨by decide, hc⟩
  have h1 : kLive (0, 1, c) := ⟨by decide, hc⟩
  refine kwX0_copyFrom_0 hC hE ?_
  simp only [kbX0_copyFrom_0, mX0_copyFrom, kblk, kstp, kent, kpad, kget, kst1, kst2, kc2, cond_false, cond_true, kfv, kfit, kOkf, kputv, kputD, kputG, kcpy, kcat, kRR, kNN, true_and, and_true, if_true, if_false, if_pos, Nat.reduceAdd, Nat.reduceEqDiff, Nat.reduceLeDiff, Nat.reduceLT, reduceIte, Prod.mk.injEq, eq_self, false_and, and_false, reduceCtorEq, Nat.reduceSub, List.reverse_cons, List.reverse_nil, List.nil_append, List.cons_append, Option.toList_some, Option.toList_none, not_true_eq_false, not_false_eq_true, h0, h1]
  refine ⟨⟨rfl, _, rfl, fun j hj => ?_, fun a ha => ?_⟩, trivial, Nat.le_refl _, Nat.le_refl _⟩
  · have : j = 0 ∨ j = 1 ∨ j = 2 ∨ j = 3 ∨ j = 4 := by omega
    rcases this with rfl | rfl | rfl | rfl | rfl <;> simp [kput]
  · funext j
    simp [kput, ha]
theorem s_Group_copy {c : Nat} (hc : c < 91) : SpQ mX1_copyFrom 0 0 [kR (some (1, 1, c)), kR (some (1, 0, c))] (km D G) (fun v M' => v = none ∧ ∃ D', M' = km D' G ∧ (∀ j, j < 8 → D' (1, 1, c) j = D (1, 0, c) j) ∧ ∀ a, a ≠ (1, 1, c) → D' a = D a) := by
  refine SpQ_of (own := 1) (ini := false) (by decide +kernel) rfl (by decide) (Nat.le_of_ble_eq_true rfl) ?_
  intro X hC hE hL0
  have h0 : kLive (1, 0, c) := ⟨by decide, hc⟩
  have h1 : kLive (1, 1, c) := ⟨by decide, hc⟩
  refine kwX1_copyFrom_0 hC hE ?_
  simp only [kbX1_copyFrom_0, mX1_copyFrom, kblk, kstp, kent, kpad, kget, kst1, kst2, kc2, cond_false, cond_true, kfv, kfit, kOkf, kputv, kputD, kputG, kcpy, kcat, kRR, kNN, true_and, and_true, if_true, if_false, if_pos, Nat.reduceAdd, Nat.reduceEqDiff, Nat.reduceLeDiff, Nat.reduceLT, reduceIte, Prod.mk.injEq, eq_self, false_and, and_false, reduceCtorEq, Nat.reduceSub, List.reverse_cons, List.reverse_nil, List.nil_append, List.cons_append, Option.toList_some, Option.toList_none, not_true_eq_false, not_false_eq_true, h0, h1]
  refine ⟨⟨rfl, _, rfl, fun j hj => ?_, fun a ha => ?_⟩, trivial, Nat.le_refl _, Nat.le_refl _⟩
  · have : j = 0 ∨ j = 1 ∨ j = 2 ∨ j = 3 ∨ j = 4 ∨ j = 5 ∨ j = 6 ∨ j = 7 := by omega
    rcases this with rfl | rfl | rfl | rfl | rfl | rfl | rfl | rfl <;> simp [kput]
  · funext j
    simp [kput, ha]
theorem s_Lane_copy {l : Nat} {xs : List Nat} (hl : l < 4) (hr : rowRep D 0 (l + 1) xs) (hlen : xs.length ≤ 91) (hb : D (2, 0, l) 1 = 0 ∨ D (2, 0, l) 1 = 1) : SpQ mX2_copyFrom 0 0 [kR (some (2, 1, l)), kR (some (2, 0, l))] (km D G) (fun v M' => v = none ∧ ∃ D', M' = km D' G ∧ (∀ j, 1 ≤ j → j ≤ 2 → D' (2, 1, l) j = D (2, 0, l) j) ∧ rowRep D' 1 (l + 1) xs ∧ ∀ a, a ≠ (2, 1, l) → a ≠ (4, 1, l + 1) → a ≠ (8, 1, l + 2) → D' a = D a) := by
  refine SpQ_of (own := 2) (ini := false) (by decide +kernel) rfl (by decide) (Nat.le_of_ble_eq_true rfl) ?_
  intro X hC hE hL0
  have h0 : kLive (2, 0, l) := ⟨by decide, hl⟩
  have h1 : kLive (2, 1, l) := ⟨by decide, hl⟩
  have h4 : kLive (4, 1, l + 1) := ⟨by decide, by omega⟩
  have h40 : kLive (4, 0, l + 1) := ⟨by decide, by omega⟩
  have hN0 := kN_lane (show 0 < 2 by decide) l
  have hN1 := kN_lane (show 1 < 2 by decide) l
  refine kwX2_copyFrom_0 hC hE ?_
  simp only [kbX2_copyFrom_0, mX2_copyFrom, kblk, kstp, kent, kpad, kget, kst1, kst2, kc2, cond_false, cond_true, kfv, kfit, kOkf, kputv, kputD, kputG, kcpy, kcat, kRR, kNN, true_and, and_true, if_true, if_false, if_pos, Nat.reduceAdd, Nat.reduceEqDiff, Nat.reduceLeDiff, Nat.reduceLT, reduceIte, Prod.mk.injEq, eq_self, false_and, and_false, reduceCtorEq, Nat.reduceSub, List.reverse_cons, List.reverse_nil, List.nil_append, List.cons_append, Option.toList_some, Option.toList_none, not_true_eq_false, not_false_eq_true, h0, h1]
  refine KW_callV hC (by decide +kernel) kl2_20 (by decide) ((s_Row_copyFrom (L := 1) (L2 := 0) (k := l + 1) (by decide) (by decide) (by omega) (by decide) hr (by rw [hN1]; omega) (by rw [hN0]; omega) (by rw [hN1]; decide))) rfl rfl (Nat.le_of_ble_eq_true rfl) rfl h4 (by simp [kOkL, kOk, h0, h1]) (by simp [kOkS]) (Nat.le_of_ble_eq_true rfl) (Nat.le_of_ble_eq_true rfl) (Nat.le_of_ble_eq_true rfl) ?_
  rintro v M' ⟨rfl, D1, rfl, hr1, ho1⟩
  have e0 : D1 (2, 0, l) = D (2, 0, l) := ho1 _ (by simp) (by simp)
  have hb1 : D1 (2, 0, l) 1 = 0 ∨ D1 (2, 0, l) 1 = 1 := by rw [e0]; exact hb
  refine kwX2_copyFrom_11 hC hE ?_
  simp only [kbX2_copyFrom_11, mX2_copyFrom, kblk, kstp, kent, kpad, kget, kst1, kst2, kc2, cond_false, cond_true, kfv, kfit, kOkf, kputv, kputD, kputG, kcpy, kcat, kRR, kNN, true_and, and_true, if_true, if_false, if_pos, Nat.reduceAdd, Nat.reduceEqDiff, Nat.reduceLeDiff, Nat.reduceLT, reduceIte, Prod.mk.injEq, eq_self, false_and, and_false, reduceCtorEq, Nat.reduceSub, List.reverse_cons, List.reverse_nil, List.nil_append, List.cons_append, Option.toList_some, Option.toList_none, not_true_eq_false, not_false_eq_true, h0, h1, hb1]
  refine ⟨⟨rfl, _, rfl, fun j hj hj2 => ?_, hr1.keep (by simp [kput]) (fun i _ => by simp [kput]), fun a ha hb hc => ?_⟩, trivial, Nat.le_refl _, Nat.le_refl _⟩
  · have : j = 1 ∨ j = 2 := by omega
    rcases this with rfl | rfl <;> simp [kput, e0]
  · rw [← ho1 a hb hc]
    funext j
    simp [kput, ha]
theorem s_Lift_copy (hr : kRep 0 D σ) (hs : kS σ) (hbool : ∀ l, l < tL σ → tZ σ 21 l = 0 ∨ tZ σ 21 l = 1) : SpQ mX3_copyFrom 0 0 [kR (some (3, 1, 0)), kR (some (3, 0, 0))] (km D G) (fun v M' => v = none ∧ kTo 1 D G σ M') := by
  refine SpQ_of (own := 3) (ini := false) (by decide +kernel) rfl (by decide) (Nat.le_of_ble_eq_true rfl) ?_
  intro X hC hE hL0
  obtain ⟨bC, bL, bG, -⟩ := hs.1
  have l0 : kLive (3, 0, 0) := ⟨by decide, rfl⟩
  have l1 : kLive (3, 1, 0) := ⟨by decide, rfl⟩
  have w0 : kLive (8, 0, 0) := Or.inl ⟨by decide, by decide⟩
  have w1 : kLive (8, 1, 0) := Or.inl ⟨by decide, by decide⟩
  have c0 : kLive (9, 0, 0) := ⟨by decide, rfl⟩
  have c1 : kLive (9, 1, 0) := ⟨by decide, rfl⟩
  have g0 : kLive (10, 0, 0) := ⟨by decide, rfl⟩
  have g1 : kLive (10, 1, 0) := ⟨by decide, rfl⟩
  have n0 : kLive (11, 0, 0) := ⟨by decide, rfl⟩
  have n1 : kLive (11, 1, 0) := ⟨by decide, rfl⟩
  have s1 : kLive (4, 1, 0) := ⟨by decide, by decide⟩
  have hN0 := kN_wind (show 0 < 2 by decide)
  have hN1 := kN_wind (show 1 < 2 by decide)
  have q5 := hr.old.1.1
  -- the last piece
  have fin : ∀ (D' : KI → Nat → Int32), kOff 1 D' D → D' (3, 1, 0) 5 = nI (tC σ) → D' (3, 1, 0) 6 = nI (tL σ) → D' (3, 1, 0) 7 = nI (tG σ) → (∀ t, t < 24 → D' (8, 1, 0) t = tZ σ 50 t) → (∀ c, c < tC σ → ∀ j, j < 5 → D' (0, 1, c) j = tZ σ j c) → (∀ l, l < tL σ → (∀ j, 1 ≤ j → j ≤ 2 → D' (2, 1, l) j = tZ σ (20 + j) l) ∧ rowRep D' 1 (l + 1) (tQ σ l)) → (∀ c, c < tG σ → ∀ j, j < 8 → D' (1, 1, c) j = tZ σ (10 + j) c) → KW X 132 [some (kR (some (3, 1, 0))), some (kR (some (3, 0, 0))), none] [] (km D' G) 0 0 := by
    intro D' ho a5 a6 a7 aw aC aL aG
    have hr' := hr.off (by decide) ho
    have hlen := hs.slen
    refine kwX3_copyFrom_132 hC hE ?_
    simp only [kbX3_copyFrom_132, mX3_copyFrom, kblk, kstp, kent, kpad, kget, kst1, kst2, kc2, cond_false, cond_true, kfv, kfit, kOkf, kputv, kputD, kputG, kcpy, kcat, kRR, kNN, true_and, and_true, if_true, if_false, if_pos, Nat.reduceAdd, Nat.reduceEqDiff, Nat.reduceLeDiff, Nat.reduceLT, reduceIte, Prod.mk.injEq, eq_self, false_and, and_false, reduceCtorEq, Nat.reduceSub, List.reverse_cons, List.reverse_nil, List.nil_append, List.cons_append, Option.toList_some, Option.toList_none, not_true_eq_false, not_false_eq_true, l0, l1]
    refine KW_callV hC (by decide +kernel) kl3_74 (by decide) ((s_Row_copyFrom (L := 1) (L2 := 0) (k := 0) (by decide) (by decide) (by decide) (by decide) hr'.old.2.2.2.2.2.2.1 (by rw [kN_shed1 (by decide)]; omega) (by rw [kN_shed1 (by decide)]; omega) (by rw [kN_shed1 (by decide)]; decide))) rfl rfl (Nat.le_of_ble_eq_true rfl) rfl s1 (by simp [kOkL, kOk, l0, l1]) (by simp [kOkS]) (Nat.le_of_ble_eq_true rfl) (Nat.le_of_ble_eq_true rfl) (Nat.le_of_ble_eq_true rfl) ?_
    rintro v M' ⟨rfl, D1, rfl, hr1, ho1⟩
    obtain ⟨e1, e2, e3, e4, e5, e6⟩ := rep_rowoff ho1
    have hr2 := hr'.off (show 0 ≠ 1 by decide) (kOff.row ho1)
    have b := hr2.old.2.1
    refine kwX3_copyFrom_143 hC hE ?_
    simp only [kbX3_copyFrom_143, mX3_copyFrom, kblk, kstp, kent, kpad, kget, kst1, kst2, kc2, cond_false, cond_true, kfv, kfit, kOkf, kputv, kputD, kputG, kcpy, kcat, kRR, kNN, true_and, and_true, if_true, if_false, if_pos, Nat.reduceAdd, Nat.reduceEqDiff, Nat.reduceLeDiff, Nat.reduceLT, reduceIte, Prod.mk.injEq, eq_self, false_and, and_false, reduceCtorEq, Nat.reduceSub, List.reverse_cons, List.reverse_nil, List.nil_append, List.cons_append, Option.toList_some, Option.toList_none, not_true_eq_false, not_false_eq_true, l0, l1]
    refine ⟨⟨rfl, _, rfl, ⟨⟨bC, bL, bG⟩, ?_⟩, kOff.put.trans (kOff.put.trans (kOff.put.trans (kOff.put.trans (kOff.put.trans (kOff.put.trans ((kOff.row ho1).trans ho))))))⟩, trivial, Nat.le_refl _, Nat.le_refl _⟩
    refine ⟨⟨by simp [kput, e1, a5], by simp [kput, e1, a6], by simp [kput, e1, a7]⟩, fun j h8 h13 => ?_, fun c hc j hj => by simp [kput, e2]; exact aC c hc j hj, fun c hc j hj => by simp [kput, e3]; exact aG c hc j hj, fun l hl j hj hj2 => by simp [kput, e4]; exact (aL l hl).1 j hj hj2, fun t ht => by simp [kput, e5]; exact aw t ht, hr1.keep (by simp [kput]) (fun i _ => by simp [kput]), fun l hl => (e6 _ _ (by omega) (aL l hl).2).keep (by simp [kput]) (fun i _ => by simp [kput])⟩
    have hj : j = 8 ∨ j = 9 ∨ j = 10 ∨ j = 11 ∨ j = 12 ∨ j = 13 := by omega
    rcases hj with rfl | rfl | rfl | rfl | rfl | rfl <;> simp [kput] <;> exact b _ (by decide) (by decide)
  have loopG : ∀ (m i : Nat) (D' : KI → Nat → Int32), i + m = tG σ → kOff 1 D' D → D' (3, 1, 0) 5 = nI (tC σ) → D' (3, 1, 0) 6 = nI (tL σ) → D' (3, 1, 0) 7 = nI (tG σ) → (∀ t, t < 24 → D' (8, 1, 0) t = tZ σ 50 t) → (∀ c, c < tC σ → ∀ j, j < 5 → D' (0, 1, c) j = tZ σ j c) → (∀ l, l < tL σ → (∀ j, 1 ≤ j → j ≤ 2 → D' (2, 1, l) j = tZ σ (20 + j) l) ∧ rowRep D' 1 (l + 1) (tQ σ l)) → (∀ c, c < i → ∀ j, j < 8 → D' (1, 1, c) j = tZ σ (10 + j) c) → KW X 103 [some (kR (some (3, 1, 0))), some (kR (some (3, 0, 0))), some (kI (nI i))] [] (km D' G) 0 0 := by
    intro m
    induction m with
    | zero =>
      intro i D' him ho a5 a6 a7 aw aC aL aG
      have hi : i = tG σ := by omega
      subst hi
      refine kwX3_copyFrom_103 hC hE ?_
      simp only [kbX3_copyFrom_103, mX3_copyFrom, kblk, kstp, kent, kpad, kget, kst1, kst2, kc2, cond_false, cond_true, kfv, kfit, kOkf, kputv, kputD, kputG, kcpy, kcat, kRR, kNN, true_and, and_true, if_true, if_false, if_pos, Nat.reduceAdd, Nat.reduceEqDiff, Nat.reduceLeDiff, Nat.reduceLT, reduceIte, Prod.mk.injEq, eq_self, false_and, and_false, reduceCtorEq, Nat.reduceSub, List.reverse_cons, List.reverse_nil, List.nil_append, List.cons_append, Option.toList_some, Option.toList_none, not_true_eq_false, not_false_eq_true, l1, a7]
      exact ⟨fun _ => KW.le (by simp [kLE]) (fin D' ho a5 a6 a7 aw aC aL aG), fun h => absurd (nI_le (Nat.le_refl _) (by omega)) h⟩
    | succ m ih =>
      intro i D' him ho a5 a6 a7 aw aC aL aG
      have hi : i < tG σ := by omega
      have hi91 : i < 91 := by omega
      have x0 : kLive (1, 0, i) := ⟨by decide, hi91⟩
      have x1 : kLive (1, 1, i) := ⟨by decide, hi91⟩
      have hr' := hr.off (by decide) ho
      refine kwX3_copyFrom_103 hC hE ?_
      simp only [kbX3_copyFrom_103, mX3_copyFrom, kblk, kstp, kent, kpad, kget, kst1, kst2, kc2, cond_false, cond_true, kfv, kfit, kOkf, kputv, kputD, kputG, kcpy, kcat, kRR, kNN, true_and, and_true, if_true, if_false, if_pos, Nat.reduceAdd, Nat.reduceEqDiff, Nat.reduceLeDiff, Nat.reduceLT, reduceIte, Prod.mk.injEq, eq_self, false_and, and_false, reduceCtorEq, Nat.reduceSub, List.reverse_cons, List.reverse_nil, List.nil_append, List.cons_append, Option.toList_some, Option.toList_none, not_true_eq_false, not_false_eq_true, l1, a7]
      refine ⟨fun h => absurd h (nI_ge hi (by omega)), fun _ => ?_⟩
      refine kwX3_copyFrom_111 hC hE ?_
      simp only [kbX3_copyFrom_111, mX3_copyFrom, kblk, kstp, kent, kpad, kget, kst1, kst2, kc2, cond_false, cond_true, kfv, kfit, kOkf, kputv, kputD, kputG, kcpy, kcat, kRR, kNN, true_and, and_true, if_true, if_false, if_pos, Nat.reduceAdd, Nat.reduceEqDiff, Nat.reduceLeDiff, Nat.reduceLT, reduceIte, Prod.mk.injEq, eq_self, false_and, and_false, reduceCtorEq, Nat.reduceSub, List.reverse_cons, List.reverse_nil, List.nil_append, List.cons_append, Option.toList_some, Option.toList_none, not_true_eq_false, not_false_eq_true, l0, l1, g0, g1, nI_clamp (show i < 2 ^ 31 by omega), hi91, x0, x1, true_or, or_true]
      refine ⟨vp_in_nI hi91 (by omega), vp_in_nI hi91 (by omega), ?_⟩
      refine KW_callV hC (by decide +kernel) kl3_71 (by decide) ((s_Group_copy hi91)) rfl rfl (Nat.le_of_ble_eq_true rfl) rfl x1 (by simp [kOkL, kOk, l0, l1]) (by simp [kOkS]) (Nat.le_of_ble_eq_true rfl) (Nat.le_of_ble_eq_true rfl) (Nat.le_of_ble_eq_true rfl) ?_
      rintro v M' ⟨rfl, D1, rfl, hd, ho1⟩
      refine kwX3_copyFrom_126 hC hE ?_
      simp only [kbX3_copyFrom_126, mX3_copyFrom, kblk, kstp, kent, kpad, kget, kst1, kst2, kc2, cond_false, cond_true, kfv, kfit, kOkf, kputv, kputD, kputG, kcpy, kcat, kRR, kNN, true_and, and_true, if_true, if_false, if_pos, Nat.reduceAdd, Nat.reduceEqDiff, Nat.reduceLeDiff, Nat.reduceLT, reduceIte, Prod.mk.injEq, eq_self, false_and, and_false, reduceCtorEq, Nat.reduceSub, List.reverse_cons, List.reverse_nil, List.nil_append, List.cons_append, Option.toList_some, Option.toList_none, not_true_eq_false, not_false_eq_true, nI_1]
      refine ih (i + 1) D1 (by omega) (fun a ha => (ho1 a (fun z => ha (by rw [z]))).trans (ho a ha)) (by rw [ho1 _ (by simp)]; exact a5) (by rw [ho1 _ (by simp)]; exact a6) (by rw [ho1 _ (by simp)]; exact a7) (fun t ht => by rw [ho1 _ (by simp)]; exact aw t ht) (fun c hc j hj => by rw [ho1 _ (by simp)]; exact aC c hc j hj) (fun l hl => ⟨fun j a b => by rw [ho1 _ (by simp)]; exact (aL l hl).1 j a b, (aL l hl).2.keep (by rw [ho1 _ (by simp)]) (fun i _ => by rw [ho1 _ (by simp)])⟩) (fun c hc j hj => ?_)
      by_cases hci : c = i
      · subst hci
        rw [hd j hj]
        exact hr'.old.2.2.2.1 c hi j hj
      · rw [ho1 _ (by simp [hci])]
        exact aG c (by omega) j hj
  have loopL : ∀ (m i : Nat) (D' : KI → Nat → Int32), i + m = tL σ → kOff 1 D' D → D' (3, 1, 0) 5 = nI (tC σ) → D' (3, 1, 0) 6 = nI (tL σ) → (∀ t, t < 24 → D' (8, 1, 0) t = tZ σ 50 t) → (∀ c, c < tC σ → ∀ j, j < 5 → D' (0, 1, c) j = tZ σ j c) → (∀ l, l < i → (∀ j, 1 ≤ j → j ≤ 2 → D' (2, 1, l) j = tZ σ (20 + j) l) ∧ rowRep D' 1 (l + 1) (tQ σ l)) → KW X 64 [some (kR (some (3, 1, 0))), some (kR (some (3, 0, 0))), some (kI (nI i))] [] (km D' G) 0 0 := by
    intro m
    induction m with
    | zero =>
      intro i D' him ho a5 a6 aw aC aL
      have hi : i = tL σ := by omega
      subst hi
      have q7 := (hr.off (by decide) ho).old.1.2.2
      refine kwX3_copyFrom_64 hC hE ?_
      simp only [kbX3_copyFrom_64, mX3_copyFrom, kblk, kstp, kent, kpad, kget, kst1, kst2, kc2, cond_false, cond_true, kfv, kfit, kOkf, kputv, kputD, kputG, kcpy, kcat, kRR, kNN, true_and, and_true, if_true, if_false, if_pos, Nat.reduceAdd, Nat.reduceEqDiff, Nat.reduceLeDiff, Nat.reduceLT, reduceIte, Prod.mk.injEq, eq_self, false_and, and_false, reduceCtorEq, Nat.reduceSub, List.reverse_cons, List.reverse_nil, List.nil_append, List.cons_append, Option.toList_some, Option.toList_none, not_true_eq_false, not_false_eq_true, l1, a6]
      refine ⟨fun _ => ?_, fun h => absurd (nI_le (Nat.le_refl _) (by omega)) h⟩
      refine kwX3_copyFrom_93 hC hE ?_
      simp only [kbX3_copyFrom_93, mX3_copyFrom, kblk, kstp, kent, kpad, kget, kst1, kst2, kc2, cond_false, cond_true, kfv, kfit, kOkf, kputv, kputD, kputG, kcpy, kcat, kRR, kNN, true_and, and_true, if_true, if_false, if_pos, Nat.reduceAdd, Nat.reduceEqDiff, Nat.reduceLeDiff, Nat.reduceLT, reduceIte, Prod.mk.injEq, eq_self, false_and, and_false, reduceCtorEq, Nat.reduceSub, List.reverse_cons, List.reverse_nil, List.nil_append, List.cons_append, Option.toList_some, Option.toList_none, not_true_eq_false, not_false_eq_true, l0, l1, q7]
      refine loopG (tG σ) 0 _ (by omega) (kOff.put.trans ho) (by simp [kput, a5]) (by simp [kput, a6]) (by simp [kput]) (fun t ht => by simp [kput]; exact aw t ht) (fun c hc j hj => by simp [kput]; exact aC c hc j hj) (fun l hl => ⟨fun j a b => by simp [kput]; exact (aL l hl).1 j a b, (aL l hl).2.keep (by simp [kput]) (fun i _ => by simp [kput])⟩) (fun c hc => by omega)
    | succ m ih =>
      intro i D' him ho a5 a6 aw aC aL
      have hi : i < tL σ := by omega
      have hi4 : i < 4 := by omega
      have x0 : kLive (2, 0, i) := ⟨by decide, hi4⟩
      have x1 : kLive (2, 1, i) := ⟨by decide, hi4⟩
      have hr' := hr.off (by decide) ho
      have hlen := hs.qlen hi
      have hsh := hr'.old.2.2.2.2.1 i hi
      refine kwX3_copyFrom_64 hC hE ?_
      simp only [kbX3_copyFrom_64, mX3_copyFrom, kblk, kstp, kent, kpad, kget, kst1, kst2, kc2, cond_false, cond_true, kfv, kfit, kOkf, kputv, kputD, kputG, kcpy, kcat, kRR, kNN, true_and, and_true, if_true, if_false, if_pos, Nat.reduceAdd, Nat.reduceEqDiff, Nat.reduceLeDiff, Nat.reduceLT, reduceIte, Prod.mk.injEq, eq_self, false_and, and_false, reduceCtorEq, Nat.reduceSub, List.reverse_cons, List.reverse_nil, List.nil_append, List.cons_append, Option.toList_some, Option.toList_none, not_true_eq_false, not_false_eq_true, l1, a6]
      refine ⟨fun h => absurd h (nI_ge hi (by omega)), fun _ => ?_⟩
      refine kwX3_copyFrom_72 hC hE ?_
      simp only [kbX3_copyFrom_72, mX3_copyFrom, kblk, kstp, kent, kpad, kget, kst1, kst2, kc2, cond_false, cond_true, kfv, kfit, kOkf, kputv, kputD, kputG, kcpy, kcat, kRR, kNN, true_and, and_true, if_true, if_false, if_pos, Nat.reduceAdd, Nat.reduceEqDiff, Nat.reduceLeDiff, Nat.reduceLT, reduceIte, Prod.mk.injEq, eq_self, false_and, and_false, reduceCtorEq, Nat.reduceSub, List.reverse_cons, List.reverse_nil, List.nil_append, List.cons_append, Option.toList_some, Option.toList_none, not_true_eq_false, not_false_eq_true, l0, l1, n0, n1, nI_clamp (show i < 2 ^ 31 by omega), hi4, x0, x1, true_or, or_true]
      refine ⟨vp_in_nI hi4 (by omega), vp_in_nI hi4 (by omega), ?_⟩
      refine KW_callV hC (by decide +kernel) kl3_65 (by decide) ((s_Lane_copy hi4 (hr'.old.2.2.2.2.2.2.2 i hi) (by omega) (by rw [hsh 1 (by decide) (by decide)]; exact hbool i hi))) rfl rfl (Nat.le_of_ble_eq_true rfl) rfl x1 (by simp [kOkL, kOk, l0, l1]) (by simp [kOkS]) (Nat.le_of_ble_eq_true rfl) (Nat.le_of_ble_eq_true rfl) (Nat.le_of_ble_eq_true rfl) ?_
      rintro v M' ⟨rfl, D1, rfl, hd, hdr, ho1⟩
      refine kwX3_copyFrom_87 hC hE ?_
      simp only [kbX3_copyFrom_87, mX3_copyFrom, kblk, kstp, kent, kpad, kget, kst1, kst2, kc2, cond_false, cond_true, kfv, kfit, kOkf, kputv, kputD, kputG, kcpy, kcat, kRR, kNN, true_and, and_true, if_true, if_false, if_pos, Nat.reduceAdd, Nat.reduceEqDiff, Nat.reduceLeDiff, Nat.reduceLT, reduceIte, Prod.mk.injEq, eq_self, false_and, and_false, reduceCtorEq, Nat.reduceSub, List.reverse_cons, List.reverse_nil, List.nil_append, List.cons_append, Option.toList_some, Option.toList_none, not_true_eq_false, not_false_eq_true, nI_1]
      refine ih (i + 1) D1 (by omega) (fun a ha => (ho1 a (fun z => ha (by rw [z])) (fun z => ha (by rw [z])) (fun z => ha (by rw [z]))).trans (ho a ha)) (by rw [ho1 _ (by simp) (by simp) (by simp)]; exact a5) (by rw [ho1 _ (by simp) (by simp) (by simp)]; exact a6) (fun t ht => by rw [ho1 _ (by simp) (by simp) (by simp)]; exact aw t ht) (fun c hc j hj => by rw [ho1 _ (by simp) (by simp) (by simp)]; exact aC c hc j hj) (fun l hl => ?_)
      by_cases hli : l = i
      · subst hli
        exact ⟨fun j a b => by rw [hd j a b]; exact hsh j a b, hdr⟩
      · exact ⟨fun j a b => by rw [ho1 _ (by simp [hli]) (by simp) (by simp)]; exact (aL l (by omega)).1 j a b, (aL l (by omega)).2.keep (by rw [ho1 _ (by simp) (by simp [hli]) (by simp)]) (fun t _ => by rw [ho1 _ (by simp) (by simp) (by simp [hli])])⟩
  have loopC : ∀ (m i : Nat) (D' : KI → Nat → Int32), i + m = tC σ → kOff 1 D' D → D' (3, 1, 0) 5 = nI (tC σ) → (∀ t, t < 24 → D' (8, 1, 0) t = tZ σ 50 t) → (∀ c, c < i → ∀ j, j < 5 → D' (0, 1, c) j = tZ σ j c) → KW X 25 [some (kR (some (3, 1, 0))), some (kR (some (3, 0, 0))), some (kI (nI i))] [] (km D' G) 0 0 := by
    intro m
    induction m with
    | zero =>
      intro i D' him ho a5 aw aC
      have hi : i = tC σ := by omega
      subst hi
      have q6 := (hr.off (by decide) ho).old.1.2.1
      refine kwX3_copyFrom_25 hC hE ?_
      simp only [kbX3_copyFrom_25, mX3_copyFrom, kblk, kstp, kent, kpad, kget, kst1, kst2, kc2, cond_false, cond_true, kfv, kfit, kOkf, kputv, kputD, kputG, kcpy, kcat, kRR, kNN, true_and, and_true, if_true, if_false, if_pos, Nat.reduceAdd, Nat.reduceEqDiff, Nat.reduceLeDiff, Nat.reduceLT, reduceIte, Prod.mk.injEq, eq_self, false_and, and_false, reduceCtorEq, Nat.reduceSub, List.reverse_cons, List.reverse_nil, List.nil_append, List.cons_append, Option.toList_some, Option.toList_none, not_true_eq_false, not_false_eq_true, l1, a5]
      refine ⟨fun _ => ?_, fun h => absurd (nI_le (Nat.le_refl _) (by omega)) h⟩
      refine kwX3_copyFrom_54 hC hE ?_
      simp only [kbX3_copyFrom_54, mX3_copyFrom, kblk, kstp, kent, kpad, kget, kst1, kst2, kc2, cond_false, cond_true, kfv, kfit, kOkf, kputv, kputD, kputG, kcpy, kcat, kRR, kNN, true_and, and_true, if_true, if_false, if_pos, Nat.reduceAdd, Nat.reduceEqDiff, Nat.reduceLeDiff, Nat.reduceLT, reduceIte, Prod.mk.injEq, eq_self, false_and, and_false, reduceCtorEq, Nat.reduceSub, List.reverse_cons, List.reverse_nil, List.nil_append, List.cons_append, Option.toList_some, Option.toList_none, not_true_eq_false, not_false_eq_true, l0, l1, q6]
      refine loopL (tL σ) 0 _ (by omega) (kOff.put.trans ho) (by simp [kput, a5]) (by simp [kput]) (fun t ht => by simp [kput]; exact aw t ht) (fun c hc j hj => by simp [kput]; exact aC c hc j hj) (fun l hl => by omega)
    | succ m ih =>
      intro i D' him ho a5 aw aC
      have hi : i < tC σ := by omega
      have hi20 : i < 20 := by omega
      have x0 : kLive (0, 0, i) := ⟨by decide, hi20⟩
      have x1 : kLive (0, 1, i) := ⟨by decide, hi20⟩
      have hr' := hr.off (by decide) ho
      refine kwX3_copyFrom_25 hC hE ?_
      simp only [kbX3_copyFrom_25, mX3_copyFrom, kblk, kstp, kent, kpad, kget, kst1, kst2, kc2, cond_false, cond_true, kfv, kfit, kOkf, kputv, kputD, kputG, kcpy, kcat, kRR, kNN, true_and, and_true, if_true, if_false, if_pos, Nat.reduceAdd, Nat.reduceEqDiff, Nat.reduceLeDiff, Nat.reduceLT, reduceIte, Prod.mk.injEq, eq_self, false_and, and_false, reduceCtorEq, Nat.reduceSub, List.reverse_cons, List.reverse_nil, List.nil_append, List.cons_append, Option.toList_some, Option.toList_none, not_true_eq_false, not_false_eq_true, l1, a5]
      refine ⟨fun h => absurd h (nI_ge hi (by omega)), fun _ => ?_⟩
      refine kwX3_copyFrom_33 hC hE ?_
      simp only [kbX3_copyFrom_33, mX3_copyFrom, kblk, kstp, kent, kpad, kget, kst1, kst2, kc2, cond_false, cond_true, kfv, kfit, kOkf, kputv, kputD, kputG, kcpy, kcat, kRR, kNN, true_and, and_true, if_true, if_false, if_pos, Nat.reduceAdd, Nat.reduceEqDiff, Nat.reduceLeDiff, Nat.reduceLT, reduceIte, Prod.mk.injEq, eq_self, false_and, and_false, reduceCtorEq, Nat.reduceSub, List.reverse_cons, List.reverse_nil, List.nil_append, List.cons_append, Option.toList_some, Option.toList_none, not_true_eq_false, not_false_eq_true, l0, l1, c0, c1, nI_clamp (show i < 2 ^ 31 by omega), hi20, x0, x1, true_or, or_true]
      refine ⟨vp_in_nI hi20 (by omega), vp_in_nI hi20 (by omega), ?_⟩
      refine KW_callV hC (by decide +kernel) kl3_58 (by decide) ((s_Chair_copy hi20)) rfl rfl (Nat.le_of_ble_eq_true rfl) rfl x1 (by simp [kOkL, kOk, l0, l1]) (by simp [kOkS]) (Nat.le_of_ble_eq_true rfl) (Nat.le_of_ble_eq_true rfl) (Nat.le_of_ble_eq_true rfl) ?_
      rintro v M' ⟨rfl, D1, rfl, hd, ho1⟩
      refine kwX3_copyFrom_48 hC hE ?_
      simp only [kbX3_copyFrom_48, mX3_copyFrom, kblk, kstp, kent, kpad, kget, kst1, kst2, kc2, cond_false, cond_true, kfv, kfit, kOkf, kputv, kputD, kputG, kcpy, kcat, kRR, kNN, true_and, and_true, if_true, if_false, if_pos, Nat.reduceAdd, Nat.reduceEqDiff, Nat.reduceLeDiff, Nat.reduceLT, reduceIte, Prod.mk.injEq, eq_self, false_and, and_false, reduceCtorEq, Nat.reduceSub, List.reverse_cons, List.reverse_nil, List.nil_append, List.cons_append, Option.toList_some, Option.toList_none, not_true_eq_false, not_false_eq_true, nI_1]
      refine ih (i + 1) D1 (by omega) (fun a ha => (ho1 a (fun z => ha (by rw [z]))).trans (ho a ha)) (by rw [ho1 _ (by simp)]; exact a5) (fun t ht => by rw [ho1 _ (by simp)]; exact aw t ht) (fun c hc j hj => ?_)
      by_cases hci : c = i
      · subst hci
        rw [hd j hj]
        exact hr'.old.2.2.1 c hi j hj
      · rw [ho1 _ (by simp [hci])]
        exact aC c (by omega) j hj
  refine kwX3_copyFrom_0 hC hE ?_
  simp only [kbX3_copyFrom_0, mX3_copyFrom, kblk, kstp, kent, kpad, kget, kst1, kst2, kc2, cond_false, cond_true, kfv, kfit, kOkf, kputv, kputD, kputG, kcpy, kcat, kRR, kNN, true_and, and_true, if_true, if_false, if_pos, Nat.reduceAdd, Nat.reduceEqDiff, Nat.reduceLeDiff, Nat.reduceLT, reduceIte, Prod.mk.injEq, eq_self, false_and, and_false, reduceCtorEq, Nat.reduceSub, List.reverse_cons, List.reverse_nil, List.nil_append, List.cons_append, Option.toList_some, Option.toList_none, not_true_eq_false, not_false_eq_true, l0, l1, w0, w1, hN0, hN1, cl0, nl0, c24a, c24b, kroom, Nat.zero_add, Nat.le_refl, Nat.reduceLeDiff]
  have e5 : kset D (8, 1, 0) (va_cpy (D (8, 0, 0)) (D (8, 1, 0)) 0 0 24) (3, 0, 0) 5 = nI (tC σ) := by simp [kset, q5]
  rw [e5]
  refine ⟨by decide, loopC (tC σ) 0 _ (by omega) (fun a ha => ?_) ?_ (fun t ht => ?_) (fun c hc => by omega)⟩
  · have h1 : a ≠ (3, 1, 0) := fun z => ha (by rw [z])
    have h2 : a ≠ (8, 1, 0) := fun z => ha (by rw [z])
    funext j
    simp [kput, kset, h1, h2]
  · simp [kput]
  · simp only [kput, kset, va_cpy, Prod.mk.injEq, Nat.reduceEqDiff, false_and, if_false, if_true, Nat.zero_le, true_and, Nat.zero_add, ht, Nat.sub_zero]
    exact hr.old.2.2.2.2.2.1 t ht
end COPY

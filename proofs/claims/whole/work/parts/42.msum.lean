/-! The reference: kept sums; chill. -/
theorem tZ_ne {σ : KT} {f i a b : Nat} {v : Int32} (h : a ≠ f) : tZ (tset σ f i v) a b = tZ σ a b := zup_ne h
theorem isum_congr {f g : Nat → Int32} : ∀ (n : Nat), (∀ i, i < n → f i = g i) → isum f n = isum g n
  | 0, _ => rfl
  | n + 1, h => by
    simp only [isum]
    rw [isum_congr n (fun i hi => h i (by omega)), h n (by omega)]
theorem isum_upd {f g : Nat → Int32} {i : Nat} {d : Int32} : ∀ (n : Nat), i < n → (∀ j, j < n → g j = if j = i then f j + d else f j) → isum g n = isum f n + d
  | 0, h, _ => absurd h (by omega)
  | n + 1, h, hg => by
    simp only [isum]
    by_cases hi : i = n
    · subst hi
      rw [isum_congr (f := g) (g := f) i (fun j hj => by rw [hg j (by omega), if_neg (by omega)]), hg i (by omega), if_pos rfl, Int32.add_assoc]
    · rw [isum_upd n (by omega) (fun j hj => hg j (by omega)), hg n (by omega), if_neg (by omega), Int32.add_assoc, Int32.add_comm d, ← Int32.add_assoc]
theorem tCold_tset {σ : KT} {f i : Nat} {v : Int32} (h1 : f ≠ 10) (h2 : f ≠ 17) : tCold (tset σ f i v) = tCold σ := by
  unfold tCold
  rw [tG_tset]
  exact isum_congr _ (fun g _ => by rw [tZ_tset, zup_ne (Ne.symm h1), zup_ne (Ne.symm h2)])
theorem tTaken_tset {σ : KT} {f i : Nat} {v : Int32} (h1 : f ≠ 4) : tTaken (tset σ f i v) = tTaken σ := by
  unfold tTaken
  rw [tC_tset]
  exact isum_congr _ (fun g _ => by rw [tZ_tset, zup_ne (Ne.symm h1)])
def mTo (P : Nat) (D : KI → Nat → Int32) (G : KI → Nat → Int64) (σ' : KT) (M' : KM) : Prop := ∃ D', M' = km D' G ∧ mSt P D' σ' ∧ kOff P D' D
theorem mTop.off {P : Nat} {D D' : KI → Nat → Int32} {σ σ' : KT} (h : mTop D σ) (hP : P = 2 ∨ P = 3) (ho : kOff P D' D) (hs : kSame σ' σ) : mTop D' σ' := by
  have e : ∀ a b, D' (a, 4, b) = D (a, 4, b) := fun a b => ho _ (by rcases hP with rfl | rfl <;> simp)
  obtain ⟨s1, s2, s3, s4⟩ := hs
  obtain ⟨⟨h1, h2, h3⟩, h4, h5, h6⟩ := h
  refine ⟨⟨by rw [e, s4 38 0 (by decide)]; exact h1, by rw [e, s1]; exact h2, by rw [e, s2]; exact h3⟩, fun c hc => ?_, fun l hl => by rw [e, s4 21 l (by decide)]; exact h5 l hl, fun t ht => by rw [e, s4 50 t (by decide)]; exact h6 t ht⟩
  rw [s1] at hc
  rw [e, s4 0 c (by decide)]
  exact h4 c hc
section MSUM
variable {D : KI → Nat → Int32} {G : KI → Nat → Int64} {P : Nat} {σ : KT}
theorem mSc_arr (h : mSc P D σ) (k i : Nat) (v : Int32) : mSc P (kput D (8, P, k) i v) σ := by
  have e : ∀ j, kput D (8, P, k) i v (6, P, 0) j = D (6, P, 0) j := fun j => by simp [kput]
  simp only [mSc, e]
  exact h
/-- scalars written, σ' agreeing elsewhere -/
theorem mSc_put {σ' : KT} (h : mSc P D σ) (j : Nat) (v : Int32) (h0 : if j = 0 then v = tZ σ' 41 0 else tZ σ' 41 0 = tZ σ 41 0) (h1 : if j = 1 then v = tZ σ' 39 0 else tZ σ' 39 0 = tZ σ 39 0) (h2 : if j = 2 then v = tZ σ' 40 0 else tZ σ' 40 0 = tZ σ 40 0) (h3 : if j = 3 then v = nI (tG σ') else tG σ' = tG σ) (h4 : if j = 4 then v = tZ σ' 42 0 else tZ σ' 42 0 = tZ σ 42 0) (h5 : if j = 5 then v = tCold σ' else tCold σ' = tCold σ) (h6 : if j = 6 then v = tTaken σ' else tTaken σ' = tTaken σ) (h7 : if j = 7 then v = tZ σ' 43 0 else tZ σ' 43 0 = tZ σ 43 0) (h8 : if j = 8 then v = nI (tS σ').length else (tS σ').length = (tS σ).length) : mSc P (kput D (6, P, 0) j v) σ' := by
  obtain ⟨a0, a1, a2, a3, a4, a5, a6, a7, a8⟩ := h
  have key : ∀ (k : Nat) (x y : Int32), D (6, P, 0) k = x → (if j = k then v = y else y = x) → kput D (6, P, 0) j v (6, P, 0) k = y := by
    intro k x y hx hy
    by_cases hk : j = k
    · subst hk
      rw [if_pos rfl] at hy
      simp [kput, hy]
    · rw [if_neg hk] at hy
      have : ¬ k = j := fun z => hk z.symm
      simp [kput, this, hx, hy]
  refine ⟨key 0 _ _ a0 h0, key 1 _ _ a1 h1, key 2 _ _ a2 h2, key 3 _ _ a3 ?_, key 4 _ _ a4 h4, key 5 _ _ a5 h5, key 6 _ _ a6 h6, key 7 _ _ a7 h7, key 8 _ _ a8 ?_⟩
  · split at h3
    · next hj => rw [if_pos hj]; exact h3
    · next hj => rw [if_neg hj, h3]
  · split at h8
    · next hj => rw [if_pos hj]; exact h8
    · next hj => rw [if_neg hj, h8]
/-- no scalar concerned -/
theorem mSc_free (h : mSc P D σ) (f i : Nat) (v : Int32) (hf : f ≠ 10 ∧ f ≠ 17 ∧ f ≠ 4 ∧ f < 39) : mSc P D (tset σ f i v) := by
  obtain ⟨a0, a1, a2, a3, a4, a5, a6, a7, a8⟩ := h
  have e : ∀ f' j, 39 ≤ f' → tZ (tset σ f i v) f' j = tZ σ f' j := fun f' j a => zup_ne (by omega)
  exact ⟨by rw [e 41 0 (by decide)]; exact a0, by rw [e 39 0 (by decide)]; exact a1, by rw [e 40 0 (by decide)]; exact a2, a3, by rw [e 42 0 (by decide)]; exact a4, by rw [tCold_tset hf.1 hf.2.1]; exact a5, by rw [tTaken_tset hf.2.2.1]; exact a6, by rw [e 43 0 (by decide)]; exact a7, a8⟩
theorem cold_up {i : Nat} (hi : i < tG σ) : tCold (tset σ 17 i (tZ σ 17 i + 1)) = tCold σ + tZ σ 10 i := by
  unfold tCold
  rw [tG_tset]
  refine isum_upd (i := i) _ hi (fun j _ => ?_)
  rw [tZ_tset, zup_ne (by decide)]
  by_cases hj : j = i
  · subst hj
    rw [if_pos rfl, zup_eq, Int32.mul_add, Int32.mul_one]
  · rw [if_neg hj, zup_ne2 hj]
theorem m_chill (hP : P = 2 ∨ P = 3) (hm : mSt P D σ) (hb : kB σ) : SpQ mX6_chill 0 0 [kR (some (6, P, 0))] (km D G) (fun v M' => v = none ∧ mTo P D G (coolTo σ (tG σ)) M') := by
  refine SpQ_of (own := 6) (ini := false) (by decide +kernel) rfl (by decide) (Nat.le_of_ble_eq_true rfl) ?_
  intro X hC hE hL0
  have hx := mLive hP
  have l17 := mLive8 (k := 17) hP (by decide) (by decide)
  have l15 := mLive8 (k := 15) hP (by decide) (by decide)
  have l21 := mLive8 (k := 21) hP (by decide) (by decide)
  have n17 := kN8_P (k := 17) hP
  have n15 := kN8_P (k := 15) hP
  have n21 := kN8_P (k := 21) hP
  simp only [Nat.reduceLT, Nat.reduceEqDiff, if_false] at n17 n15 n21
  have hb1 := hb.2.2.1
  have loop : ∀ (m i : Nat) (D' : KI → Nat → Int32), i + m = tG σ → mSt P D' (coolTo σ i) → kOff P D' D → KW X 2 [some (kR (some (6, P, 0))), some (kI (nI i))] [] (km D' G) 0 0 := by
    intro m
    induction m with
    | zero =>
      intro i D' him hm' ho
      have hi : i = tG σ := by omega
      subst hi
      have c7 : D' (6, P, 0) 3 = nI (tG σ) := hm'.1.2.2.2.1
      refine kwX6_chill_2 hC hE ?_
      simp only [kbX6_chill_2, mX6_chill, kblk, kstp, kent, kpad, kget, kst1, kst2, kc2, cond_false, cond_true, kfv, kfit, kOkf, kputv, kputD, kputG, kcpy, kcat, kRR, kNN, true_and, and_true, if_true, if_false, if_pos, Nat.reduceAdd, Nat.reduceEqDiff, Nat.reduceLeDiff, Nat.reduceLT, reduceIte, Prod.mk.injEq, eq_self, false_and, and_false, reduceCtorEq, Nat.reduceSub, List.reverse_cons, List.reverse_nil, List.nil_append, List.cons_append, Option.toList_some, Option.toList_none, not_true_eq_false, not_false_eq_true, hx, c7]
      refine ⟨fun _ => ?_, fun h => absurd (nI_le (Nat.le_refl _) (by omega)) h⟩
      refine kwX6_chill_54 hC hE ?_
      simp only [kbX6_chill_54, mX6_chill, kblk, kstp, kent, kpad, kget, kst1, kst2, kc2, cond_false, cond_true, kfv, kfit, kOkf, kputv, kputD, kputG, kcpy, kcat, kRR, kNN, true_and, and_true, if_true, if_false, if_pos, Nat.reduceAdd, Nat.reduceEqDiff, Nat.reduceLeDiff, Nat.reduceLT, reduceIte, Prod.mk.injEq, eq_self, false_and, and_false, reduceCtorEq, Nat.reduceSub, List.reverse_cons, List.reverse_nil, List.nil_append, List.cons_append, Option.toList_some, Option.toList_none, not_true_eq_false, not_false_eq_true]
      exact ⟨⟨rfl, _, rfl, hm', ho⟩, trivial, Nat.le_refl _, Nat.le_refl _⟩
    | succ m ih =>
      intro i D' him hm' ho
      have hi : i < tG σ := by omega
      have c7 : D' (6, P, 0) 3 = nI (tG σ) := hm'.1.2.2.2.1
      have c5 : D' (6, P, 0) 5 = tCold (coolTo σ i) := hm'.1.2.2.2.2.2.1
      have hg := hm'.2.2.2.2.2.2.2 i hi
      have q12 := hg.2.2.1
      rw [cool_12] at q12
      have q10 := hg.1
      have q17 := hg.2.2.2.2.2.1
      refine kwX6_chill_2 hC hE ?_
      simp only [kbX6_chill_2, mX6_chill, kblk, kstp, kent, kpad, kget, kst1, kst2, kc2, cond_false, cond_true, kfv, kfit, kOkf, kputv, kputD, kputG, kcpy, kcat, kRR, kNN, true_and, and_true, if_true, if_false, if_pos, Nat.reduceAdd, Nat.reduceEqDiff, Nat.reduceLeDiff, Nat.reduceLT, reduceIte, Prod.mk.injEq, eq_self, false_and, and_false, reduceCtorEq, Nat.reduceSub, List.reverse_cons, List.reverse_nil, List.nil_append, List.cons_append, Option.toList_some, Option.toList_none, not_true_eq_false, not_false_eq_true, hx, c7]
      refine ⟨fun h => absurd h (nI_ge hi (by omega)), fun _ => ?_⟩
      refine kwX6_chill_10 hC hE ?_
      simp only [kbX6_chill_10, mX6_chill, kblk, kstp, kent, kpad, kget, kst1, kst2, kc2, cond_false, cond_true, kfv, kfit, kOkf, kputv, kputD, kputG, kcpy, kcat, kRR, kNN, true_and, and_true, if_true, if_false, if_pos, Nat.reduceAdd, Nat.reduceEqDiff, Nat.reduceLeDiff, Nat.reduceLT, reduceIte, Prod.mk.injEq, eq_self, false_and, and_false, reduceCtorEq, Nat.reduceSub, List.reverse_cons, List.reverse_nil, List.nil_append, List.cons_append, Option.toList_some, Option.toList_none, not_true_eq_false, not_false_eq_true, hx, l17, n17, nI_clamp (show i < 2 ^ 31 by omega), q12]
      refine ⟨vp_in_nI (show i < 91 by omega) (by omega), fun h => ?_, fun h => ?_⟩
      · have e1 : ∀ v, kput D' (8, P, 21) i v (6, P, 0) 5 = tCold (coolTo σ i) := fun v => by simp [kput, c5]
        have e2 : ∀ v, kput D' (8, P, 21) i v (8, P, 15) i = tZ (coolTo σ i) 10 i := fun v => by simp [kput, q10]
        refine kwX6_chill_23 hC hE ?_
        simp only [kbX6_chill_23, mX6_chill, kblk, kstp, kent, kpad, kget, kst1, kst2, kc2, cond_false, cond_true, kfv, kfit, kOkf, kputv, kputD, kputG, kcpy, kcat, kRR, kNN, true_and, and_true, if_true, if_false, if_pos, Nat.reduceAdd, Nat.reduceEqDiff, Nat.reduceLeDiff, Nat.reduceLT, reduceIte, Prod.mk.injEq, eq_self, false_and, and_false, reduceCtorEq, Nat.reduceSub, List.reverse_cons, List.reverse_nil, List.nil_append, List.cons_append, Option.toList_some, Option.toList_none, not_true_eq_false, not_false_eq_true, hx, l17, l15, l21, n15, n17, n21, nI_clamp (show i < 2 ^ 31 by omega), q17, e1, e2]
        refine ⟨vp_in_nI (show i < 91 by omega) (by omega), vp_in_nI (show i < 91 by omega) (by omega), vp_in_nI (show i < 91 by omega) (by omega), ?_⟩
        refine kwX6_chill_48 hC hE ?_
        simp only [kbX6_chill_48, mX6_chill, kblk, kstp, kent, kpad, kget, kst1, kst2, kc2, cond_false, cond_true, kfv, kfit, kOkf, kputv, kputD, kputG, kcpy, kcat, kRR, kNN, true_and, and_true, if_true, if_false, if_pos, Nat.reduceAdd, Nat.reduceEqDiff, Nat.reduceLeDiff, Nat.reduceLT, reduceIte, Prod.mk.injEq, eq_self, false_and, and_false, reduceCtorEq, Nat.reduceSub, List.reverse_cons, List.reverse_nil, List.nil_append, List.cons_append, Option.toList_some, Option.toList_none, not_true_eq_false, not_false_eq_true, nI_1]
        have ec : coolTo σ (i + 1) = tset (coolTo σ i) 17 i (tZ (coolTo σ i) 17 i + 1) := by rw [cool_yes h, cool_17]
        refine ih (i + 1) _ (by omega) ?_ (kOff.put.trans (kOff.put.trans ho))
        rw [ec]
        refine ⟨mSc_put (mSc_arr hm'.1 21 i _) 5 _ ?_ ?_ ?_ ?_ ?_ ?_ ?_ ?_ ?_, mArr_sc (mArr_put hm'.2 21 i _ (by decide)) 5 _⟩
        · rw [if_neg (by decide)]; exact tZ_ne (by decide)
        · rw [if_neg (by decide)]; exact tZ_ne (by decide)
        · rw [if_neg (by decide)]; exact tZ_ne (by decide)
        · rw [if_neg (by decide)]; rfl
        · rw [if_neg (by decide)]; exact tZ_ne (by decide)
        · rw [if_pos rfl]; exact (cold_up (σ := coolTo σ i) hi).symm
        · rw [if_neg (by decide)]; exact tTaken_tset (by decide)
        · rw [if_neg (by decide)]; exact tZ_ne (by decide)
        · rw [if_neg (by decide)]; rfl
      · refine kwX6_chill_20 hC hE ?_
        simp only [kbX6_chill_20, mX6_chill, kblk, kstp, kent, kpad, kget, kst1, kst2, kc2, cond_false, cond_true, kfv, kfit, kOkf, kputv, kputD, kputG, kcpy, kcat, kRR, kNN, true_and, and_true, if_true, if_false, if_pos, Nat.reduceAdd, Nat.reduceEqDiff, Nat.reduceLeDiff, Nat.reduceLT, reduceIte, Prod.mk.injEq, eq_self, false_and, and_false, reduceCtorEq, Nat.reduceSub, List.reverse_cons, List.reverse_nil, List.nil_append, List.cons_append, Option.toList_some, Option.toList_none, not_true_eq_false, not_false_eq_true]
        refine kwX6_chill_48 hC hE ?_
        simp only [kbX6_chill_48, mX6_chill, kblk, kstp, kent, kpad, kget, kst1, kst2, kc2, cond_false, cond_true, kfv, kfit, kOkf, kputv, kputD, kputG, kcpy, kcat, kRR, kNN, true_and, and_true, if_true, if_false, if_pos, Nat.reduceAdd, Nat.reduceEqDiff, Nat.reduceLeDiff, Nat.reduceLT, reduceIte, Prod.mk.injEq, eq_self, false_and, and_false, reduceCtorEq, Nat.reduceSub, List.reverse_cons, List.reverse_nil, List.nil_append, List.cons_append, Option.toList_some, Option.toList_none, not_true_eq_false, not_false_eq_true, nI_1]
        exact ih (i + 1) D' (by omega) (by rw [cool_no h]; exact hm') ho
  refine kwX6_chill_0 hC hE ?_
  simp only [kbX6_chill_0, mX6_chill, kblk, kstp, kent, kpad, kget, kst1, kst2, kc2, cond_false, cond_true, kfv, kfit, kOkf, kputv, kputD, kputG, kcpy, kcat, kRR, kNN, true_and, and_true, if_true, if_false, if_pos, Nat.reduceAdd, Nat.reduceEqDiff, Nat.reduceLeDiff, Nat.reduceLT, reduceIte, Prod.mk.injEq, eq_self, false_and, and_false, reduceCtorEq, Nat.reduceSub, List.reverse_cons, List.reverse_nil, List.nil_append, List.cons_append, Option.toList_some, Option.toList_none, not_true_eq_false, not_false_eq_true]
  exact loop (tG σ) 0 D (by omega) (by rw [cool_0]; exact hm) kOff.refl
end MSUM

/-! ChairLift: the mean and the digest. -/
def fmix (f : Nat → Int32) (a : Int64) : Nat → Int64
  | 0 => a
  | n + 1 => fmix f a n * 31 + (f n).toInt64
theorem fmix_0 {f : Nat → Int32} {a : Int64} : fmix f a 0 = a := rfl
theorem fmix_s {f : Nat → Int32} {a : Int64} {n : Nat} : fmix f a (n + 1) = fmix f a n * 31 + (f n).toInt64 := rfl
def gmix (F : Nat → Int64 → Int64) (a : Int64) : Nat → Int64
  | 0 => a
  | n + 1 => F n (gmix F a n)
theorem gmix_0 {F : Nat → Int64 → Int64} {a : Int64} : gmix F a 0 = a := rfl
def rowF (xs : List Nat) (i : Nat) : Int32 := nI (xs[i]?.getD 0)
def dGroups (σ : KT) (a : Int64) : Int64 := gmix (fun g a => fmix (fun j => tZ σ (10 + j) g) a 8) a (tG σ)
def dChairs (σ : KT) (a : Int64) : Int64 := gmix (fun c a => fmix (fun j => tZ σ j c) a 5) a (tC σ)
def dLanes (σ : KT) (a : Int64) : Int64 := gmix (fun l a => fmix (rowF (tQ σ l)) (fmix (tLaneFact σ l) a 4) (tQ σ l).length) a (tL σ)
def tDigest (σ : KT) : Int64 := fmix (rowF (tS σ)) (dLanes σ (dChairs σ (dGroups σ (fmix (tZ σ 50) (fmix (tFact σ) 677 13) 24)))) (tS σ).length
theorem n64_of {r : UInt64} (h : FP.Core.dIsNaN r = false) : vf_n64 r := by
  unfold vf_n64
  have h2 : ¬ 9218868437227405312 < r.toNat % 2 ^ 63 := fun z => by
    have := (FP.Core.isNaN_bits r).mpr z
    rw [h] at this
    cases this
  rw [UInt64.le_iff_toNat_le, UInt64.toNat_and, show (0x7fffffffffffffff : UInt64).toNat = 2 ^ 63 - 1 from rfl, Nat.and_two_pow_sub_one_eq_mod]
  have : (0x7ff0000000000000 : UInt64).toNat = 9218868437227405312 := rfl
  omega
theorem mean_n64 (a : Int32) {b : Int32} (hb : ¬ b = 0) : vf_n64 (FP.ddiv (FP.i2d a) (FP.i2d b)) :=
  n64_of (FP.Core.ddiv_out (FP.Core.i2d_fin a).notNaN (FP.Core.i2d_fin b) (fun z => FP.Core.i2d_ne_zero hb ((FP.Core.zero_bits2 _).mp z)))
def tMean (σ : KT) : UInt64 := if tZ σ 43 0 = 0 then FP.dconst0 else FP.ddiv (FP.i2d (tTaken σ)) (FP.i2d (tZ σ 43 0))
section DIG
variable {D : KI → Nat → Int32} {G : KI → Nat → Int64} {σ : KT}
theorem s_mean (hr : kRep 0 D σ) (hs : kS σ) : SpQ mX5_mean 0 0 [kR (some (5, 9, 0))] (km D G) (fun v M' => v = some (kD (tMean σ)) ∧ M' = km D G) := by
  refine SpQ_of (own := 5) (ini := false) (by decide +kernel) rfl (by decide) (Nat.le_of_ble_eq_true rfl) ?_
  intro X hC hE hL0
  have hx := kx_live
  have hlive : kLive (3, 0, 0) := ⟨by decide, rfl⟩
  have h13 := hr.old.2.1 13 (by decide) (by decide)
  refine kwX5_mean_0 hC hE ?_
  simp only [kbX5_mean_0, mX5_mean, kblk, kstp, kent, kpad, kget, kst1, kst2, kc2, cond_false, cond_true, kfv, kfit, kOkf, kputv, kputD, kputG, kcpy, kcat, kRR, kNN, true_and, and_true, if_true, if_false, if_pos, Nat.reduceAdd, Nat.reduceEqDiff, Nat.reduceLeDiff, Nat.reduceLT, reduceIte, Prod.mk.injEq, eq_self, false_and, and_false, reduceCtorEq, Nat.reduceSub, List.reverse_cons, List.reverse_nil, List.nil_append, List.cons_append, Option.toList_some, Option.toList_none, not_true_eq_false, not_false_eq_true, hx, hlive, h13]
  refine ⟨fun h => ?_, fun h => ?_⟩
  · have h' : ¬ tZ σ 43 0 = 0 := h
    refine kwX5_mean_14 hC hE ?_
    simp only [kbX5_mean_14, mX5_mean, kblk, kstp, kent, kpad, kget, kst1, kst2, kc2, cond_false, cond_true, kfv, kfit, kOkf, kputv, kputD, kputG, kcpy, kcat, kRR, kNN, true_and, and_true, if_true, if_false, if_pos, Nat.reduceAdd, Nat.reduceEqDiff, Nat.reduceLeDiff, Nat.reduceLT, reduceIte, Prod.mk.injEq, eq_self, false_and, and_false, reduceCtorEq, Nat.reduceSub, List.reverse_cons, List.reverse_nil, List.nil_append, List.cons_append, Option.toList_some, Option.toList_none, not_true_eq_false, not_false_eq_true, hx]
    refine KW_callV hC (by decide +kernel) kl5_161 (by decide) ((s_ridersTaken (by decide) hr hs.1)) rfl rfl (Nat.le_of_ble_eq_true rfl) rfl hlive (by simp [kOkL, kOk, hx]) (by simp [kOkS]) (Nat.le_of_ble_eq_true rfl) (Nat.le_of_ble_eq_true rfl) (Nat.le_of_ble_eq_true rfl) ?_
    rintro v M' ⟨rfl, rfl⟩
    refine kwX5_mean_21 hC hE ?_
    simp only [kbX5_mean_21, mX5_mean, kblk, kstp, kent, kpad, kget, kst1, kst2, kc2, cond_false, cond_true, kfv, kfit, kOkf, kputv, kputD, kputG, kcpy, kcat, kRR, kNN, true_and, and_true, if_true, if_false, if_pos, Nat.reduceAdd, Nat.reduceEqDiff, Nat.reduceLeDiff, Nat.reduceLT, reduceIte, Prod.mk.injEq, eq_self, false_and, and_false, reduceCtorEq, Nat.reduceSub, List.reverse_cons, List.reverse_nil, List.nil_append, List.cons_append, Option.toList_some, Option.toList_none, not_true_eq_false, not_false_eq_true, hx, hlive, h13]
    refine ⟨mean_n64 _ h', ?_⟩
    refine kwX5_mean_31 hC hE ?_
    simp only [kbX5_mean_31, mX5_mean, kblk, kstp, kent, kpad, kget, kst1, kst2, kc2, cond_false, cond_true, kfv, kfit, kOkf, kputv, kputD, kputG, kcpy, kcat, kRR, kNN, true_and, and_true, if_true, if_false, if_pos, Nat.reduceAdd, Nat.reduceEqDiff, Nat.reduceLeDiff, Nat.reduceLT, reduceIte, Prod.mk.injEq, eq_self, false_and, and_false, reduceCtorEq, Nat.reduceSub, List.reverse_cons, List.reverse_nil, List.nil_append, List.cons_append, Option.toList_some, Option.toList_none, not_true_eq_false, not_false_eq_true]
    exact ⟨⟨congrArg (fun x => some (kD x)) (if_neg h').symm, rfl⟩, trivial, Nat.le_refl _, Nat.le_refl _⟩
  · have h' : tZ σ 43 0 = 0 := h
    refine kwX5_mean_10 hC hE ?_
    simp only [kbX5_mean_10, mX5_mean, kblk, kstp, kent, kpad, kget, kst1, kst2, kc2, cond_false, cond_true, kfv, kfit, kOkf, kputv, kputD, kputG, kcpy, kcat, kRR, kNN, true_and, and_true, if_true, if_false, if_pos, Nat.reduceAdd, Nat.reduceEqDiff, Nat.reduceLeDiff, Nat.reduceLT, reduceIte, Prod.mk.injEq, eq_self, false_and, and_false, reduceCtorEq, Nat.reduceSub, List.reverse_cons, List.reverse_nil, List.nil_append, List.cons_append, Option.toList_some, Option.toList_none, not_true_eq_false, not_false_eq_true]
    refine kwX5_mean_31 hC hE ?_
    simp only [kbX5_mean_31, mX5_mean, kblk, kstp, kent, kpad, kget, kst1, kst2, kc2, cond_false, cond_true, kfv, kfit, kOkf, kputv, kputD, kputG, kcpy, kcat, kRR, kNN, true_and, and_true, if_true, if_false, if_pos, Nat.reduceAdd, Nat.reduceEqDiff, Nat.reduceLeDiff, Nat.reduceLT, reduceIte, Prod.mk.injEq, eq_self, false_and, and_false, reduceCtorEq, Nat.reduceSub, List.reverse_cons, List.reverse_nil, List.nil_append, List.cons_append, Option.toList_some, Option.toList_none, not_true_eq_false, not_false_eq_true]
    exact ⟨⟨congrArg (fun x => some (kD x)) (if_pos h').symm, rfl⟩, trivial, Nat.le_refl _, Nat.le_refl _⟩
theorem s_mixRow {k : Nat} {xs : List Nat} (hk : k < 5) (hr : rowRep D 0 k xs) (hlen : xs.length ≤ kN8 0 (k + 1)) (h91 : kN8 0 (k + 1) ≤ 91) (a : Int64) : SpQ mX5_mixedWithRow 0 0 [kL a, kR (some (4, 0, k))] (km D G) (fun v M' => v = some (kL (fmix (rowF xs) a xs.length)) ∧ M' = km D G) := by
  refine SpQ_of (own := 5) (ini := false) (by decide +kernel) rfl (by decide) (Nat.le_of_ble_eq_true rfl) ?_
  intro X hC hE hL0
  have hx : kLive (4, 0, k) := ⟨by decide, hk⟩
  have hl8 : kLive (8, 0, k + 1) := Or.inl ⟨by decide, by omega⟩
  have loop : ∀ (m i : Nat), i + m = xs.length → KW X 5 [some (kL a), none, some (kR (some (4, 0, k))), some (kL (fmix (rowF xs) a i)), none, some (kI (nI i))] [] (km D G) 0 0 := by
    intro m
    induction m with
    | zero =>
      intro i him
      have hi : i = xs.length := by omega
      subst hi
      refine kwX5_mixedWithRow_5 hC hE ?_
      simp only [kbX5_mixedWithRow_5, mX5_mixedWithRow, kblk, kstp, kent, kpad, kget, kst1, kst2, kc2, cond_false, cond_true, kfv, kfit, kOkf, kputv, kputD, kputG, kcpy, kcat, kRR, kNN, true_and, and_true, if_true, if_false, if_pos, Nat.reduceAdd, Nat.reduceEqDiff, Nat.reduceLeDiff, Nat.reduceLT, reduceIte, Prod.mk.injEq, eq_self, false_and, and_false, reduceCtorEq, Nat.reduceSub, List.reverse_cons, List.reverse_nil, List.nil_append, List.cons_append, Option.toList_some, Option.toList_none, not_true_eq_false, not_false_eq_true, hx, hr.1]
      refine ⟨fun _ => ?_, fun h => absurd (nI_le (Nat.le_refl _) (by omega)) h⟩
      refine kwX5_mixedWithRow_33 hC hE ?_
      simp only [kbX5_mixedWithRow_33, mX5_mixedWithRow, kblk, kstp, kent, kpad, kget, kst1, kst2, kc2, cond_false, cond_true, kfv, kfit, kOkf, kputv, kputD, kputG, kcpy, kcat, kRR, kNN, true_and, and_true, if_true, if_false, if_pos, Nat.reduceAdd, Nat.reduceEqDiff, Nat.reduceLeDiff, Nat.reduceLT, reduceIte, Prod.mk.injEq, eq_self, false_and, and_false, reduceCtorEq, Nat.reduceSub, List.reverse_cons, List.reverse_nil, List.nil_append, List.cons_append, Option.toList_some, Option.toList_none, not_true_eq_false, not_false_eq_true]
      exact ⟨⟨rfl, rfl⟩, trivial, Nat.le_refl _, Nat.le_refl _⟩
    | succ m ih =>
      intro i him
      have hi : i < xs.length := by omega
      have hv := hr.2 i _ (List.getElem?_eq_getElem hi)
      have e : nI xs[i] = rowF xs i := by unfold rowF; rw [List.getElem?_eq_getElem hi]; rfl
      rw [e] at hv
      refine kwX5_mixedWithRow_5 hC hE ?_
      simp only [kbX5_mixedWithRow_5, mX5_mixedWithRow, kblk, kstp, kent, kpad, kget, kst1, kst2, kc2, cond_false, cond_true, kfv, kfit, kOkf, kputv, kputD, kputG, kcpy, kcat, kRR, kNN, true_and, and_true, if_true, if_false, if_pos, Nat.reduceAdd, Nat.reduceEqDiff, Nat.reduceLeDiff, Nat.reduceLT, reduceIte, Prod.mk.injEq, eq_self, false_and, and_false, reduceCtorEq, Nat.reduceSub, List.reverse_cons, List.reverse_nil, List.nil_append, List.cons_append, Option.toList_some, Option.toList_none, not_true_eq_false, not_false_eq_true, hx, hr.1]
      refine ⟨fun h => absurd h (nI_ge hi (by omega)), fun _ => ?_⟩
      refine kwX5_mixedWithRow_14 hC hE ?_
      simp only [kbX5_mixedWithRow_14, mX5_mixedWithRow, kblk, kstp, kent, kpad, kget, kst1, kst2, kc2, cond_false, cond_true, kfv, kfit, kOkf, kputv, kputD, kputG, kcpy, kcat, kRR, kNN, true_and, and_true, if_true, if_false, if_pos, Nat.reduceAdd, Nat.reduceEqDiff, Nat.reduceLeDiff, Nat.reduceLT, reduceIte, Prod.mk.injEq, eq_self, false_and, and_false, reduceCtorEq, Nat.reduceSub, List.reverse_cons, List.reverse_nil, List.nil_append, List.cons_append, Option.toList_some, Option.toList_none, not_true_eq_false, not_false_eq_true, hx, hl8, nI_clamp (show i < 2 ^ 31 by omega), hv]
      refine ⟨vp_in_nI (show i < kN8 0 (k + 1) by omega) (by omega), ?_⟩
      refine KW_callS hC (by decide +kernel) kl5_166 (by decide) ((s_mixed (km D G) _ _)) rfl rfl (by simp [kOkL, kOk, hx]) (by simp [kOkS]) (Nat.le_of_ble_eq_true rfl) (Nat.le_of_ble_eq_true rfl) (Nat.le_of_ble_eq_true rfl) ?_
      rintro v M' ⟨rfl, rfl⟩
      refine kwX5_mixedWithRow_26 hC hE ?_
      simp only [kbX5_mixedWithRow_26, mX5_mixedWithRow, kblk, kstp, kent, kpad, kget, kst1, kst2, kc2, cond_false, cond_true, kfv, kfit, kOkf, kputv, kputD, kputG, kcpy, kcat, kRR, kNN, true_and, and_true, if_true, if_false, if_pos, Nat.reduceAdd, Nat.reduceEqDiff, Nat.reduceLeDiff, Nat.reduceLT, reduceIte, Prod.mk.injEq, eq_self, false_and, and_false, reduceCtorEq, Nat.reduceSub, List.reverse_cons, List.reverse_nil, List.nil_append, List.cons_append, Option.toList_some, Option.toList_none, not_true_eq_false, not_false_eq_true, nI_1]
      have hh := ih (i + 1) (by omega)
      rw [fmix_s] at hh
      exact hh
  refine kwX5_mixedWithRow_0 hC hE ?_
  simp only [kbX5_mixedWithRow_0, mX5_mixedWithRow, kblk, kstp, kent, kpad, kget, kst1, kst2, kc2, cond_false, cond_true, kfv, kfit, kOkf, kputv, kputD, kputG, kcpy, kcat, kRR, kNN, true_and, and_true, if_true, if_false, if_pos, Nat.reduceAdd, Nat.reduceEqDiff, Nat.reduceLeDiff, Nat.reduceLT, reduceIte, Prod.mk.injEq, eq_self, false_and, and_false, reduceCtorEq, Nat.reduceSub, List.reverse_cons, List.reverse_nil, List.nil_append, List.cons_append, Option.toList_some, Option.toList_none, not_true_eq_false, not_false_eq_true]
  have hh := loop xs.length 0 (by omega)
  rw [fmix_0] at hh
  exact hh
theorem s_mixGroups (hr : kRep 0 D σ) (hs : kS σ) (a : Int64) : SpQ mX5_mixedWithGroups 0 0 [kR (some (5, 9, 0)), kL a] (km D G) (fun v M' => v = some (kL (dGroups σ a)) ∧ M' = km D G) := by
  refine SpQ_of (own := 5) (ini := false) (by decide +kernel) rfl (by decide) (Nat.le_of_ble_eq_true rfl) ?_
  intro X hC hE hL0
  have hx := kx_live
  have hlive : kLive (3, 0, 0) := ⟨by decide, rfl⟩
  obtain ⟨bC, bL, bG⟩ := hr.1
  have cc := hr.old.1.2.2
  have loop : ∀ (m i : Nat), i + m = tG σ → KW X 5 [some (kR (some (5, 9, 0))), some (kL a), none, some (kL (gmix (fun g a => fmix (fun j => tZ σ (10 + j) g) a 8) a i)), none, some (kI (nI i)), none] [] (km D G) 0 0 := by
    intro m
    induction m with
    | zero =>
      intro i him
      have hi : i = tG σ := by omega
      subst hi
      refine kwX5_mixedWithGroups_5 hC hE ?_
      simp only [kbX5_mixedWithGroups_5, mX5_mixedWithGroups, kblk, kstp, kent, kpad, kget, kst1, kst2, kc2, cond_false, cond_true, kfv, kfit, kOkf, kputv, kputD, kputG, kcpy, kcat, kRR, kNN, true_and, and_true, if_true, if_false, if_pos, Nat.reduceAdd, Nat.reduceEqDiff, Nat.reduceLeDiff, Nat.reduceLT, reduceIte, Prod.mk.injEq, eq_self, false_and, and_false, reduceCtorEq, Nat.reduceSub, List.reverse_cons, List.reverse_nil, List.nil_append, List.cons_append, Option.toList_some, Option.toList_none, not_true_eq_false, not_false_eq_true, hx, hlive, cc]
      refine ⟨fun _ => ?_, fun h => absurd (nI_le (Nat.le_refl _) (by omega)) h⟩
      refine kwX5_mixedWithGroups_60 hC hE ?_
      simp only [kbX5_mixedWithGroups_60, mX5_mixedWithGroups, kblk, kstp, kent, kpad, kget, kst1, kst2, kc2, cond_false, cond_true, kfv, kfit, kOkf, kputv, kputD, kputG, kcpy, kcat, kRR, kNN, true_and, and_true, if_true, if_false, if_pos, Nat.reduceAdd, Nat.reduceEqDiff, Nat.reduceLeDiff, Nat.reduceLT, reduceIte, Prod.mk.injEq, eq_self, false_and, and_false, reduceCtorEq, Nat.reduceSub, List.reverse_cons, List.reverse_nil, List.nil_append, List.cons_append, Option.toList_some, Option.toList_none, not_true_eq_false, not_false_eq_true]
      exact ⟨⟨rfl, rfl⟩, trivial, Nat.le_refl _, Nat.le_refl _⟩
    | succ m ih =>
      intro i him
      have hi : i < tG σ := by omega
      have hi91 : i < 91 := by omega
      have hli : kLive (1, 0, i) := ⟨by decide, hi91⟩
      have hc10 : kLive (10, 0, 0) := ⟨by decide, rfl⟩
      have inner : ∀ (m2 j : Nat), j + m2 = 8 → KW X 20 [some (kR (some (5, 9, 0))), some (kL a), none, some (kL (fmix (fun j => tZ σ (10 + j) i) (gmix (fun g a => fmix (fun j => tZ σ (10 + j) g) a 8) a i) j)), none, some (kI (nI i)), some (kI (nI j))] [] (km D G) 0 0 := by
        intro m2
        induction m2 with
        | zero =>
          intro j hj
          have hj : j = 8 := by omega
          subst hj
          refine kwX5_mixedWithGroups_20 hC hE ?_
          simp only [kbX5_mixedWithGroups_20, mX5_mixedWithGroups, kblk, kstp, kent, kpad, kget, kst1, kst2, kc2, cond_false, cond_true, kfv, kfit, kOkf, kputv, kputD, kputG, kcpy, kcat, kRR, kNN, true_and, and_true, if_true, if_false, if_pos, Nat.reduceAdd, Nat.reduceEqDiff, Nat.reduceLeDiff, Nat.reduceLT, reduceIte, Prod.mk.injEq, eq_self, false_and, and_false, reduceCtorEq, Nat.reduceSub, List.reverse_cons, List.reverse_nil, List.nil_append, List.cons_append, Option.toList_some, Option.toList_none, not_true_eq_false, not_false_eq_true]
          refine ⟨fun _ => ?_, fun h => absurd (by decide) h⟩
          refine kwX5_mixedWithGroups_54 hC hE ?_
          simp only [kbX5_mixedWithGroups_54, mX5_mixedWithGroups, kblk, kstp, kent, kpad, kget, kst1, kst2, kc2, cond_false, cond_true, kfv, kfit, kOkf, kputv, kputD, kputG, kcpy, kcat, kRR, kNN, true_and, and_true, if_true, if_false, if_pos, Nat.reduceAdd, Nat.reduceEqDiff, Nat.reduceLeDiff, Nat.reduceLT, reduceIte, Prod.mk.injEq, eq_self, false_and, and_false, reduceCtorEq, Nat.reduceSub, List.reverse_cons, List.reverse_nil, List.nil_append, List.cons_append, Option.toList_some, Option.toList_none, not_true_eq_false, not_false_eq_true, nI_1]
          have hh := ih (i + 1) (by omega)
          simp only [gmix] at hh
          exact KW.le (by simp [kLE]) hh
        | succ m2 ih2 =>
          intro j hj
          refine kwX5_mixedWithGroups_20 hC hE ?_
          simp only [kbX5_mixedWithGroups_20, mX5_mixedWithGroups, kblk, kstp, kent, kpad, kget, kst1, kst2, kc2, cond_false, cond_true, kfv, kfit, kOkf, kputv, kputD, kputG, kcpy, kcat, kRR, kNN, true_and, and_true, if_true, if_false, if_pos, Nat.reduceAdd, Nat.reduceEqDiff, Nat.reduceLeDiff, Nat.reduceLT, reduceIte, Prod.mk.injEq, eq_self, false_and, and_false, reduceCtorEq, Nat.reduceSub, List.reverse_cons, List.reverse_nil, List.nil_append, List.cons_append, Option.toList_some, Option.toList_none, not_true_eq_false, not_false_eq_true]
          refine ⟨fun h => absurd h (nI_ge (a := j) (b := 8) (by omega) (by decide)), fun _ => ?_⟩
          refine kwX5_mixedWithGroups_27 hC hE ?_
          simp only [kbX5_mixedWithGroups_27, mX5_mixedWithGroups, kblk, kstp, kent, kpad, kget, kst1, kst2, kc2, cond_false, cond_true, kfv, kfit, kOkf, kputv, kputD, kputG, kcpy, kcat, kRR, kNN, true_and, and_true, if_true, if_false, if_pos, Nat.reduceAdd, Nat.reduceEqDiff, Nat.reduceLeDiff, Nat.reduceLT, reduceIte, Prod.mk.injEq, eq_self, false_and, and_false, reduceCtorEq, Nat.reduceSub, List.reverse_cons, List.reverse_nil, List.nil_append, List.cons_append, Option.toList_some, Option.toList_none, not_true_eq_false, not_false_eq_true, hx, hlive, hc10, hli, nI_clamp (show i < 2 ^ 31 by omega), hi91, true_or, or_true]
          refine ⟨vp_in_nI hi91 (by omega), ?_⟩
          refine KW_callV hC (by decide +kernel) kl5_121 (by decide) ((s_Group_fact (by decide) hr hs.1 hi (what := j) (by omega))) rfl rfl (Nat.le_of_ble_eq_true rfl) rfl hli (by simp [kOkL, kOk, hx]) (by simp [kOkS, kOk]) (Nat.le_of_ble_eq_true rfl) (Nat.le_of_ble_eq_true rfl) (Nat.le_of_ble_eq_true rfl) ?_
          rintro v M' ⟨rfl, rfl⟩
          refine kwX5_mixedWithGroups_43 hC hE ?_
          simp only [kbX5_mixedWithGroups_43, mX5_mixedWithGroups, kblk, kstp, kent, kpad, kget, kst1, kst2, kc2, cond_false, cond_true, kfv, kfit, kOkf, kputv, kputD, kputG, kcpy, kcat, kRR, kNN, true_and, and_true, if_true, if_false, if_pos, Nat.reduceAdd, Nat.reduceEqDiff, Nat.reduceLeDiff, Nat.reduceLT, reduceIte, Prod.mk.injEq, eq_self, false_and, and_false, reduceCtorEq, Nat.reduceSub, List.reverse_cons, List.reverse_nil, List.nil_append, List.cons_append, Option.toList_some, Option.toList_none, not_true_eq_false, not_false_eq_true]
          refine KW_callS hC (by decide +kernel) kl5_166 (by decide) ((s_mixed (km D G) _ _)) rfl rfl (by simp [kOkL, kOk, hx]) (by simp [kOkS]) (Nat.le_of_ble_eq_true rfl) (Nat.le_of_ble_eq_true rfl) (Nat.le_of_ble_eq_true rfl) ?_
          rintro v M' ⟨rfl, rfl⟩
          refine kwX5_mixedWithGroups_47 hC hE ?_
          simp only [kbX5_mixedWithGroups_47, mX5_mixedWithGroups, kblk, kstp, kent, kpad, kget, kst1, kst2, kc2, cond_false, cond_true, kfv, kfit, kOkf, kputv, kputD, kputG, kcpy, kcat, kRR, kNN, true_and, and_true, if_true, if_false, if_pos, Nat.reduceAdd, Nat.reduceEqDiff, Nat.reduceLeDiff, Nat.reduceLT, reduceIte, Prod.mk.injEq, eq_self, false_and, and_false, reduceCtorEq, Nat.reduceSub, List.reverse_cons, List.reverse_nil, List.nil_append, List.cons_append, Option.toList_some, Option.toList_none, not_true_eq_false, not_false_eq_true, nI_1]
          have hh := ih2 (j + 1) (by omega)
          rw [fmix_s] at hh
          exact hh
      refine kwX5_mixedWithGroups_5 hC hE ?_
      simp only [kbX5_mixedWithGroups_5, mX5_mixedWithGroups, kblk, kstp, kent, kpad, kget, kst1, kst2, kc2, cond_false, cond_true, kfv, kfit, kOkf, kputv, kputD, kputG, kcpy, kcat, kRR, kNN, true_and, and_true, if_true, if_false, if_pos, Nat.reduceAdd, Nat.reduceEqDiff, Nat.reduceLeDiff, Nat.reduceLT, reduceIte, Prod.mk.injEq, eq_self, false_and, and_false, reduceCtorEq, Nat.reduceSub, List.reverse_cons, List.reverse_nil, List.nil_append, List.cons_append, Option.toList_some, Option.toList_none, not_true_eq_false, not_false_eq_true, hx, hlive, cc]
      refine ⟨fun h => absurd h (nI_ge hi (by omega)), fun _ => ?_⟩
      refine kwX5_mixedWithGroups_17 hC hE ?_
      simp only [kbX5_mixedWithGroups_17, mX5_mixedWithGroups, kblk, kstp, kent, kpad, kget, kst1, kst2, kc2, cond_false, cond_true, kfv, kfit, kOkf, kputv, kputD, kputG, kcpy, kcat, kRR, kNN, true_and, and_true, if_true, if_false, if_pos, Nat.reduceAdd, Nat.reduceEqDiff, Nat.reduceLeDiff, Nat.reduceLT, reduceIte, Prod.mk.injEq, eq_self, false_and, and_false, reduceCtorEq, Nat.reduceSub, List.reverse_cons, List.reverse_nil, List.nil_append, List.cons_append, Option.toList_some, Option.toList_none, not_true_eq_false, not_false_eq_true]
      have hh := inner 8 0 (by omega)
      rw [fmix_0] at hh
      exact hh
  refine kwX5_mixedWithGroups_0 hC hE ?_
  simp only [kbX5_mixedWithGroups_0, mX5_mixedWithGroups, kblk, kstp, kent, kpad, kget, kst1, kst2, kc2, cond_false, cond_true, kfv, kfit, kOkf, kputv, kputD, kputG, kcpy, kcat, kRR, kNN, true_and, and_true, if_true, if_false, if_pos, Nat.reduceAdd, Nat.reduceEqDiff, Nat.reduceLeDiff, Nat.reduceLT, reduceIte, Prod.mk.injEq, eq_self, false_and, and_false, reduceCtorEq, Nat.reduceSub, List.reverse_cons, List.reverse_nil, List.nil_append, List.cons_append, Option.toList_some, Option.toList_none, not_true_eq_false, not_false_eq_true]
  have hh := loop (tG σ) 0 (by omega)
  rw [gmix_0] at hh
  exact hh
theorem s_mixChairs (hr : kRep 0 D σ) (hs : kS σ) (a : Int64) : SpQ mX5_mixedWithChairs 0 0 [kR (some (5, 9, 0)), kL a] (km D G) (fun v M' => v = some (kL (dChairs σ a)) ∧ M' = km D G) := by
  refine SpQ_of (own := 5) (ini := false) (by decide +kernel) rfl (by decide) (Nat.le_of_ble_eq_true rfl) ?_
  intro X hC hE hL0
  have hx := kx_live
  have hlive : kLive (3, 0, 0) := ⟨by decide, rfl⟩
  obtain ⟨bC, bL, bG⟩ := hr.1
  have cc := hr.old.1.1
  have loop : ∀ (m i : Nat), i + m = tC σ → KW X 5 [some (kR (some (5, 9, 0))), some (kL a), none, some (kL (gmix (fun c a => fmix (fun j => tZ σ j c) a 5) a i)), none, some (kI (nI i)), none] [] (km D G) 0 0 := by
    intro m
    induction m with
    | zero =>
      intro i him
      have hi : i = tC σ := by omega
      subst hi
      refine kwX5_mixedWithChairs_5 hC hE ?_
      simp only [kbX5_mixedWithChairs_5, mX5_mixedWithChairs, kblk, kstp, kent, kpad, kget, kst1, kst2, kc2, cond_false, cond_true, kfv, kfit, kOkf, kputv, kputD, kputG, kcpy, kcat, kRR, kNN, true_and, and_true, if_true, if_false, if_pos, Nat.reduceAdd, Nat.reduceEqDiff, Nat.reduceLeDiff, Nat.reduceLT, reduceIte, Prod.mk.injEq, eq_self, false_and, and_false, reduceCtorEq, Nat.reduceSub, List.reverse_cons, List.reverse_nil, List.nil_append, List.cons_append, Option.toList_some, Option.toList_none, not_true_eq_false, not_false_eq_true, hx, hlive, cc]
      refine ⟨fun _ => ?_, fun h => absurd (nI_le (Nat.le_refl _) (by omega)) h⟩
      refine kwX5_mixedWithChairs_59 hC hE ?_
      simp only [kbX5_mixedWithChairs_59, mX5_mixedWithChairs, kblk, kstp, kent, kpad, kget, kst1, kst2, kc2, cond_false, cond_true, kfv, kfit, kOkf, kputv, kputD, kputG, kcpy, kcat, kRR, kNN, true_and, and_true, if_true, if_false, if_pos, Nat.reduceAdd, Nat.reduceEqDiff, Nat.reduceLeDiff, Nat.reduceLT, reduceIte, Prod.mk.injEq, eq_self, false_and, and_false, reduceCtorEq, Nat.reduceSub, List.reverse_cons, List.reverse_nil, List.nil_append, List.cons_append, Option.toList_some, Option.toList_none, not_true_eq_false, not_false_eq_true]
      exact ⟨⟨rfl, rfl⟩, trivial, Nat.le_refl _, Nat.le_refl _⟩
    | succ m ih =>
      intro i him
      have hi : i < tC σ := by omega
      have hi20 : i < 20 := by omega
      have hli : kLive (0, 0, i) := ⟨by decide, hi20⟩
      have hc9 : kLive (9, 0, 0) := ⟨by decide, rfl⟩
      have inner : ∀ (m2 j : Nat), j + m2 = 5 → KW X 20 [some (kR (some (5, 9, 0))), some (kL a), none, some (kL (fmix (fun j => tZ σ j i) (gmix (fun c a => fmix (fun j => tZ σ j c) a 5) a i) j)), none, some (kI (nI i)), some (kI (nI j))] [] (km D G) 0 0 := by
        intro m2
        induction m2 with
        | zero =>
          intro j hj
          have hj : j = 5 := by omega
          subst hj
          refine kwX5_mixedWithChairs_20 hC hE ?_
          simp only [kbX5_mixedWithChairs_20, mX5_mixedWithChairs, kblk, kstp, kent, kpad, kget, kst1, kst2, kc2, cond_false, cond_true, kfv, kfit, kOkf, kputv, kputD, kputG, kcpy, kcat, kRR, kNN, true_and, and_true, if_true, if_false, if_pos, Nat.reduceAdd, Nat.reduceEqDiff, Nat.reduceLeDiff, Nat.reduceLT, reduceIte, Prod.mk.injEq, eq_self, false_and, and_false, reduceCtorEq, Nat.reduceSub, List.reverse_cons, List.reverse_nil, List.nil_append, List.cons_append, Option.toList_some, Option.toList_none, not_true_eq_false, not_false_eq_true]
          refine ⟨fun _ => ?_, fun h => absurd (by decide) h⟩
          refine kwX5_mixedWithChairs_53 hC hE ?_
          simp only [kbX5_mixedWithChairs_53, mX5_mixedWithChairs, kblk, kstp, kent, kpad, kget, kst1, kst2, kc2, cond_false, cond_true, kfv, kfit, kOkf, kputv, kputD, kputG, kcpy, kcat, kRR, kNN, true_and, and_true, if_true, if_false, if_pos, Nat.reduceAdd, Nat.reduceEqDiff, Nat.reduceLeDiff, Nat.reduceLT, reduceIte, Prod.mk.injEq, eq_self, false_and, and_false, reduceCtorEq, Nat.reduceSub, List.reverse_cons, List.reverse_nil, List.nil_append, List.cons_append, Option.toList_some, Option.toList_none, not_true_eq_false, not_false_eq_true, nI_1]
          have hh := ih (i + 1) (by omega)
          simp only [gmix] at hh
          exact KW.le (by simp [kLE]) hh
        | succ m2 ih2 =>
          intro j hj
          refine kwX5_mixedWithChairs_20 hC hE ?_
          simp only [kbX5_mixedWithChairs_20, mX5_mixedWithChairs, kblk, kstp, kent, kpad, kget, kst1, kst2, kc2, cond_false, cond_true, kfv, kfit, kOkf, kputv, kputD, kputG, kcpy, kcat, kRR, kNN, true_and, and_true, if_true, if_false, if_pos, Nat.reduceAdd, Nat.reduceEqDiff, Nat.reduceLeDiff, Nat.reduceLT, reduceIte, Prod.mk.injEq, eq_self, false_and, and_false, reduceCtorEq, Nat.reduceSub, List.reverse_cons, List.reverse_nil, List.nil_append, List.cons_append, Option.toList_some, Option.toList_none, not_true_eq_false, not_false_eq_true]
          refine ⟨fun h => absurd h (nI_ge (a := j) (b := 5) (by omega) (by decide)), fun _ => ?_⟩
          refine kwX5_mixedWithChairs_26 hC hE ?_
          simp only [kbX5_mixedWithChairs_26, mX5_mixedWithChairs, kblk, kstp, kent, kpad, kget, kst1, kst2, kc2, cond_false, cond_true, kfv, kfit, kOkf, kputv, kputD, kputG, kcpy, kcat, kRR, kNN, true_and, and_true, if_true, if_false, if_pos, Nat.reduceAdd, Nat.reduceEqDiff, Nat.reduceLeDiff, Nat.reduceLT, reduceIte, Prod.mk.injEq, eq_self, false_and, and_false, reduceCtorEq, Nat.reduceSub, List.reverse_cons, List.reverse_nil, List.nil_append, List.cons_append, Option.toList_some, Option.toList_none, not_true_eq_false, not_false_eq_true, hx, hlive, hc9, hli, nI_clamp (show i < 2 ^ 31 by omega), hi20, true_or, or_true]
          refine ⟨vp_in_nI hi20 (by omega), ?_⟩
          refine KW_callV hC (by decide +kernel) kl5_128 (by decide) ((s_Chair_fact (by decide) hr hs.1 hi (what := j) (by omega))) rfl rfl (Nat.le_of_ble_eq_true rfl) rfl hli (by simp [kOkL, kOk, hx]) (by simp [kOkS, kOk]) (Nat.le_of_ble_eq_true rfl) (Nat.le_of_ble_eq_true rfl) (Nat.le_of_ble_eq_true rfl) ?_
          rintro v M' ⟨rfl, rfl⟩
          refine kwX5_mixedWithChairs_42 hC hE ?_
          simp only [kbX5_mixedWithChairs_42, mX5_mixedWithChairs, kblk, kstp, kent, kpad, kget, kst1, kst2, kc2, cond_false, cond_true, kfv, kfit, kOkf, kputv, kputD, kputG, kcpy, kcat, kRR, kNN, true_and, and_true, if_true, if_false, if_pos, Nat.reduceAdd, Nat.reduceEqDiff, Nat.reduceLeDiff, Nat.reduceLT, reduceIte, Prod.mk.injEq, eq_self, false_and, and_false, reduceCtorEq, Nat.reduceSub, List.reverse_cons, List.reverse_nil, List.nil_append, List.cons_append, Option.toList_some, Option.toList_none, not_true_eq_false, not_false_eq_true]
          refine KW_callS hC (by decide +kernel) kl5_166 (by decide) ((s_mixed (km D G) _ _)) rfl rfl (by simp [kOkL, kOk, hx]) (by simp [kOkS]) (Nat.le_of_ble_eq_true rfl) (Nat.le_of_ble_eq_true rfl) (Nat.le_of_ble_eq_true rfl) ?_
          rintro v M' ⟨rfl, rfl⟩
          refine kwX5_mixedWithChairs_46 hC hE ?_
          simp only [kbX5_mixedWithChairs_46, mX5_mixedWithChairs, kblk, kstp, kent, kpad, kget, kst1, kst2, kc2, cond_false, cond_true, kfv, kfit, kOkf, kputv, kputD, kputG, kcpy, kcat, kRR, kNN, true_and, and_true, if_true, if_false, if_pos, Nat.reduceAdd, Nat.reduceEqDiff, Nat.reduceLeDiff, Nat.reduceLT, reduceIte, Prod.mk.injEq, eq_self, false_and, and_false, reduceCtorEq, Nat.reduceSub, List.reverse_cons, List.reverse_nil, List.nil_append, List.cons_append, Option.toList_some, Option.toList_none, not_true_eq_false, not_false_eq_true, nI_1]
          have hh := ih2 (j + 1) (by omega)
          rw [fmix_s] at hh
          exact hh
      refine kwX5_mixedWithChairs_5 hC hE ?_
      simp only [kbX5_mixedWithChairs_5, mX5_mixedWithChairs, kblk, kstp, kent, kpad, kget, kst1, kst2, kc2, cond_false, cond_true, kfv, kfit, kOkf, kputv, kputD, kputG, kcpy, kcat, kRR, kNN, true_and, and_true, if_true, if_false, if_pos, Nat.reduceAdd, Nat.reduceEqDiff, Nat.reduceLeDiff, Nat.reduceLT, reduceIte, Prod.mk.injEq, eq_self, false_and, and_false, reduceCtorEq, Nat.reduceSub, List.reverse_cons, List.reverse_nil, List.nil_append, List.cons_append, Option.toList_some, Option.toList_none, not_true_eq_false, not_false_eq_true, hx, hlive, cc]
      refine ⟨fun h => absurd h (nI_ge hi (by omega)), fun _ => ?_⟩
      refine kwX5_mixedWithChairs_17 hC hE ?_
      simp only [kbX5_mixedWithChairs_17, mX5_mixedWithChairs, kblk, kstp, kent, kpad, kget, kst1, kst2, kc2, cond_false, cond_true, kfv, kfit, kOkf, kputv, kputD, kputG, kcpy, kcat, kRR, kNN, true_and, and_true, if_true, if_false, if_pos, Nat.reduceAdd, Nat.reduceEqDiff, Nat.reduceLeDiff, Nat.reduceLT, reduceIte, Prod.mk.injEq, eq_self, false_and, and_false, reduceCtorEq, Nat.reduceSub, List.reverse_cons, List.reverse_nil, List.nil_append, List.cons_append, Option.toList_some, Option.toList_none, not_true_eq_false, not_false_eq_true]
      have hh := inner 5 0 (by omega)
      rw [fmix_0] at hh
      exact hh
  refine kwX5_mixedWithChairs_0 hC hE ?_
  simp only [kbX5_mixedWithChairs_0, mX5_mixedWithChairs, kblk, kstp, kent, kpad, kget, kst1, kst2, kc2, cond_false, cond_true, kfv, kfit, kOkf, kputv, kputD, kputG, kcpy, kcat, kRR, kNN, true_and, and_true, if_true, if_false, if_pos, Nat.reduceAdd, Nat.reduceEqDiff, Nat.reduceLeDiff, Nat.reduceLT, reduceIte, Prod.mk.injEq, eq_self, false_and, and_false, reduceCtorEq, Nat.reduceSub, List.reverse_cons, List.reverse_nil, List.nil_append, List.cons_append, Option.toList_some, Option.toList_none, not_true_eq_false, not_false_eq_true]
  have hh := loop (tC σ) 0 (by omega)
  rw [gmix_0] at hh
  exact hh
theorem s_mixLanes (hr : kRep 0 D σ) (hs : kS σ) (a : Int64) : SpQ mX5_mixedWithLanes 0 0 [kR (some (5, 9, 0)), kL a] (km D G) (fun v M' => v = some (kL (dLanes σ a)) ∧ M' = km D G) := by
  refine SpQ_of (own := 5) (ini := false) (by decide +kernel) rfl (by decide) (Nat.le_of_ble_eq_true rfl) ?_
  intro X hC hE hL0
  have hx := kx_live
  have hlive : kLive (3, 0, 0) := ⟨by decide, rfl⟩
  obtain ⟨bC, bL, bG⟩ := hr.1
  have cc := hr.old.1.2.1
  have loop : ∀ (m i : Nat), i + m = tL σ → KW X 5 [some (kR (some (5, 9, 0))), some (kL a), none, some (kL (gmix (fun l a => fmix (rowF (tQ σ l)) (fmix (tLaneFact σ l) a 4) (tQ σ l).length) a i)), none, some (kI (nI i)), none] [] (km D G) 0 0 := by
    intro m
    induction m with
    | zero =>
      intro i him
      have hi : i = tL σ := by omega
      subst hi
      refine kwX5_mixedWithLanes_5 hC hE ?_
      simp only [kbX5_mixedWithLanes_5, mX5_mixedWithLanes, kblk, kstp, kent, kpad, kget, kst1, kst2, kc2, cond_false, cond_true, kfv, kfit, kOkf, kputv, kputD, kputG, kcpy, kcat, kRR, kNN, true_and, and_true, if_true, if_false, if_pos, Nat.reduceAdd, Nat.reduceEqDiff, Nat.reduceLeDiff, Nat.reduceLT, reduceIte, Prod.mk.injEq, eq_self, false_and, and_false, reduceCtorEq, Nat.reduceSub, List.reverse_cons, List.reverse_nil, List.nil_append, List.cons_append, Option.toList_some, Option.toList_none, not_true_eq_false, not_false_eq_true, hx, hlive, cc]
      refine ⟨fun _ => ?_, fun h => absurd (nI_le (Nat.le_refl _) (by omega)) h⟩
      refine kwX5_mixedWithLanes_73 hC hE ?_
      simp only [kbX5_mixedWithLanes_73, mX5_mixedWithLanes, kblk, kstp, kent, kpad, kget, kst1, kst2, kc2, cond_false, cond_true, kfv, kfit, kOkf, kputv, kputD, kputG, kcpy, kcat, kRR, kNN, true_and, and_true, if_true, if_false, if_pos, Nat.reduceAdd, Nat.reduceEqDiff, Nat.reduceLeDiff, Nat.reduceLT, reduceIte, Prod.mk.injEq, eq_self, false_and, and_false, reduceCtorEq, Nat.reduceSub, List.reverse_cons, List.reverse_nil, List.nil_append, List.cons_append, Option.toList_some, Option.toList_none, not_true_eq_false, not_false_eq_true]
      exact ⟨⟨rfl, rfl⟩, trivial, Nat.le_refl _, Nat.le_refl _⟩
    | succ m ih =>
      intro i him
      have hi : i < tL σ := by omega
      have hi4 : i < 4 := by omega
      have hli : kLive (2, 0, i) := ⟨by decide, hi4⟩
      have hc11 : kLive (11, 0, 0) := ⟨by decide, rfl⟩
      have hN := kN_lane (show 0 < 2 by decide) i
      have hql := hs.qlen hi
      have inner : ∀ (m2 j : Nat), j + m2 = 4 → KW X 20 [some (kR (some (5, 9, 0))), some (kL a), none, some (kL (fmix (tLaneFact σ i) (gmix (fun l a => fmix (rowF (tQ σ l)) (fmix (tLaneFact σ l) a 4) (tQ σ l).length) a i) j)), none, some (kI (nI i)), some (kI (nI j))] [] (km D G) 0 0 := by
        intro m2
        induction m2 with
        | zero =>
          intro j hj
          have hj : j = 4 := by omega
          subst hj
          refine kwX5_mixedWithLanes_20 hC hE ?_
          simp only [kbX5_mixedWithLanes_20, mX5_mixedWithLanes, kblk, kstp, kent, kpad, kget, kst1, kst2, kc2, cond_false, cond_true, kfv, kfit, kOkf, kputv, kputD, kputG, kcpy, kcat, kRR, kNN, true_and, and_true, if_true, if_false, if_pos, Nat.reduceAdd, Nat.reduceEqDiff, Nat.reduceLeDiff, Nat.reduceLT, reduceIte, Prod.mk.injEq, eq_self, false_and, and_false, reduceCtorEq, Nat.reduceSub, List.reverse_cons, List.reverse_nil, List.nil_append, List.cons_append, Option.toList_some, Option.toList_none, not_true_eq_false, not_false_eq_true]
          refine ⟨fun _ => ?_, fun h => absurd (by decide) h⟩
          refine kwX5_mixedWithLanes_49 hC hE ?_
          simp only [kbX5_mixedWithLanes_49, mX5_mixedWithLanes, kblk, kstp, kent, kpad, kget, kst1, kst2, kc2, cond_false, cond_true, kfv, kfit, kOkf, kputv, kputD, kputG, kcpy, kcat, kRR, kNN, true_and, and_true, if_true, if_false, if_pos, Nat.reduceAdd, Nat.reduceEqDiff, Nat.reduceLeDiff, Nat.reduceLT, reduceIte, Prod.mk.injEq, eq_self, false_and, and_false, reduceCtorEq, Nat.reduceSub, List.reverse_cons, List.reverse_nil, List.nil_append, List.cons_append, Option.toList_some, Option.toList_none, not_true_eq_false, not_false_eq_true, hx, hlive, hc11, hli, nI_clamp (show i < 2 ^ 31 by omega), hi4, true_or, or_true]
          refine ⟨vp_in_nI hi4 (by omega), ?_⟩
          refine KW_callS hC (by decide +kernel) kl5_180 (by decide) ((s_mixRow (k := i + 1) (by omega) (hr.old.2.2.2.2.2.2.2 i hi) (by rw [hN]; omega) (by rw [hN]; decide) _)) rfl rfl (by simp [kOkL, kOk, hx]) (by simp [kOkS]) (Nat.le_of_ble_eq_true rfl) (Nat.le_of_ble_eq_true rfl) (Nat.le_of_ble_eq_true rfl) ?_
          rintro v M' ⟨rfl, rfl⟩
          refine kwX5_mixedWithLanes_66 hC hE ?_
          simp only [kbX5_mixedWithLanes_66, mX5_mixedWithLanes, kblk, kstp, kent, kpad, kget, kst1, kst2, kc2, cond_false, cond_true, kfv, kfit, kOkf, kputv, kputD, kputG, kcpy, kcat, kRR, kNN, true_and, and_true, if_true, if_false, if_pos, Nat.reduceAdd, Nat.reduceEqDiff, Nat.reduceLeDiff, Nat.reduceLT, reduceIte, Prod.mk.injEq, eq_self, false_and, and_false, reduceCtorEq, Nat.reduceSub, List.reverse_cons, List.reverse_nil, List.nil_append, List.cons_append, Option.toList_some, Option.toList_none, not_true_eq_false, not_false_eq_true, nI_1]
          have hh := ih (i + 1) (by omega)
          simp only [gmix] at hh
          exact KW.le (by simp [kLE]) hh
        | succ m2 ih2 =>
          intro j hj
          refine kwX5_mixedWithLanes_20 hC hE ?_
          simp only [kbX5_mixedWithLanes_20, mX5_mixedWithLanes, kblk, kstp, kent, kpad, kget, kst1, kst2, kc2, cond_false, cond_true, kfv, kfit, kOkf, kputv, kputD, kputG, kcpy, kcat, kRR, kNN, true_and, and_true, if_true, if_false, if_pos, Nat.reduceAdd, Nat.reduceEqDiff, Nat.reduceLeDiff, Nat.reduceLT, reduceIte, Prod.mk.injEq, eq_self, false_and, and_false, reduceCtorEq, Nat.reduceSub, List.reverse_cons, List.reverse_nil, List.nil_append, List.cons_append, Option.toList_some, Option.toList_none, not_true_eq_false, not_false_eq_true]
          refine ⟨fun h => absurd h (nI_ge (a := j) (b := 4) (by omega) (by decide)), fun _ => ?_⟩
          refine kwX5_mixedWithLanes_26 hC hE ?_
          simp only [kbX5_mixedWithLanes_26, mX5_mixedWithLanes, kblk, kstp, kent, kpad, kget, kst1, kst2, kc2, cond_false, cond_true, kfv, kfit, kOkf, kputv, kputD, kputG, kcpy, kcat, kRR, kNN, true_and, and_true, if_true, if_false, if_pos, Nat.reduceAdd, Nat.reduceEqDiff, Nat.reduceLeDiff, Nat.reduceLT, reduceIte, Prod.mk.injEq, eq_self, false_and, and_false, reduceCtorEq, Nat.reduceSub, List.reverse_cons, List.reverse_nil, List.nil_append, List.cons_append, Option.toList_some, Option.toList_none, not_true_eq_false, not_false_eq_true, hx, hlive]
          refine KW_callV hC (by decide +kernel) kl5_131 (by decide) ((s_laneFact (by decide) hr hs.1 hi (what := j) (by omega))) rfl rfl (Nat.le_of_ble_eq_true rfl) rfl hlive (by simp [kOkL, kOk, hx]) (by simp [kOkS, kOk]) (Nat.le_of_ble_eq_true rfl) (Nat.le_of_ble_eq_true rfl) (Nat.le_of_ble_eq_true rfl) ?_
          rintro v M' ⟨rfl, rfl⟩
          refine kwX5_mixedWithLanes_38 hC hE ?_
          simp only [kbX5_mixedWithLanes_38, mX5_mixedWithLanes, kblk, kstp, kent, kpad, kget, kst1, kst2, kc2, cond_false, cond_true, kfv, kfit, kOkf, kputv, kputD, kputG, kcpy, kcat, kRR, kNN, true_and, and_true, if_true, if_false, if_pos, Nat.reduceAdd, Nat.reduceEqDiff, Nat.reduceLeDiff, Nat.reduceLT, reduceIte, Prod.mk.injEq, eq_self, false_and, and_false, reduceCtorEq, Nat.reduceSub, List.reverse_cons, List.reverse_nil, List.nil_append, List.cons_append, Option.toList_some, Option.toList_none, not_true_eq_false, not_false_eq_true]
          refine KW_callS hC (by decide +kernel) kl5_166 (by decide) ((s_mixed (km D G) _ _)) rfl rfl (by simp [kOkL, kOk, hx]) (by simp [kOkS]) (Nat.le_of_ble_eq_true rfl) (Nat.le_of_ble_eq_true rfl) (Nat.le_of_ble_eq_true rfl) ?_
          rintro v M' ⟨rfl, rfl⟩
          refine kwX5_mixedWithLanes_42 hC hE ?_
          simp only [kbX5_mixedWithLanes_42, mX5_mixedWithLanes, kblk, kstp, kent, kpad, kget, kst1, kst2, kc2, cond_false, cond_true, kfv, kfit, kOkf, kputv, kputD, kputG, kcpy, kcat, kRR, kNN, true_and, and_true, if_true, if_false, if_pos, Nat.reduceAdd, Nat.reduceEqDiff, Nat.reduceLeDiff, Nat.reduceLT, reduceIte, Prod.mk.injEq, eq_self, false_and, and_false, reduceCtorEq, Nat.reduceSub, List.reverse_cons, List.reverse_nil, List.nil_append, List.cons_append, Option.toList_some, Option.toList_none, not_true_eq_false, not_false_eq_true, nI_1]
          have hh := ih2 (j + 1) (by omega)
          rw [fmix_s] at hh
          exact hh
      refine kwX5_mixedWithLanes_5 hC hE ?_
      simp only [kbX5_mixedWithLanes_5, mX5_mixedWithLanes, kblk, kstp, kent, kpad, kget, kst1, kst2, kc2, cond_false, cond_true, kfv, kfit, kOkf, kputv, kputD, kputG, kcpy, kcat, kRR, kNN, true_and, and_true, if_true, if_false, if_pos, Nat.reduceAdd, Nat.reduceEqDiff, Nat.reduceLeDiff, Nat.reduceLT, reduceIte, Prod.mk.injEq, eq_self, false_and, and_false, reduceCtorEq, Nat.reduceSub, List.reverse_cons, List.reverse_nil, List.nil_append, List.cons_append, Option.toList_some, Option.toList_none, not_true_eq_false, not_false_eq_true, hx, hlive, cc]
      refine ⟨fun h => absurd h (nI_ge hi (by omega)), fun _ => ?_⟩
      refine kwX5_mixedWithLanes_17 hC hE ?_
      simp only [kbX5_mixedWithLanes_17, mX5_mixedWithLanes, kblk, kstp, kent, kpad, kget, kst1, kst2, kc2, cond_false, cond_true, kfv, kfit, kOkf, kputv, kputD, kputG, kcpy, kcat, kRR, kNN, true_and, and_true, if_true, if_false, if_pos, Nat.reduceAdd, Nat.reduceEqDiff, Nat.reduceLeDiff, Nat.reduceLT, reduceIte, Prod.mk.injEq, eq_self, false_and, and_false, reduceCtorEq, Nat.reduceSub, List.reverse_cons, List.reverse_nil, List.nil_append, List.cons_append, Option.toList_some, Option.toList_none, not_true_eq_false, not_false_eq_true]
      have hh := inner 4 0 (by omega)
      rw [fmix_0] at hh
      exact hh
  refine kwX5_mixedWithLanes_0 hC hE ?_
  simp only [kbX5_mixedWithLanes_0, mX5_mixedWithLanes, kblk, kstp, kent, kpad, kget, kst1, kst2, kc2, cond_false, cond_true, kfv, kfit, kOkf, kputv, kputD, kputG, kcpy, kcat, kRR, kNN, true_and, and_true, if_true, if_false, if_pos, Nat.reduceAdd, Nat.reduceEqDiff, Nat.reduceLeDiff, Nat.reduceLT, reduceIte, Prod.mk.injEq, eq_self, false_and, and_false, reduceCtorEq, Nat.reduceSub, List.reverse_cons, List.reverse_nil, List.nil_append, List.cons_append, Option.toList_some, Option.toList_none, not_true_eq_false, not_false_eq_true]
  have hh := loop (tL σ) 0 (by omega)
  rw [gmix_0] at hh
  exact hh
end DIG

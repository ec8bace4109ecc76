/-! The reference's public methods. -/
theorem tset_self {σ : KT} {f i : Nat} {v : Int32} (h : tZ σ f i = v) : tset σ f i v = σ := by
  show (σ.1, zup (tZ σ) f i v, σ.2.2.1, σ.2.2.2) = σ
  rw [zup_self h]
  rfl
theorem mSt_congr3 {P : Nat} {D : KI → Nat → Int32} {σ τ : KT} (h : mSt P D σ) (hC : tC τ = tC σ) (hG : tG τ = tG σ) (hS : tS τ = tS σ) (hQ : tQ τ = tQ σ) (hZ : ∀ f j, f = 1 ∨ f = 4 ∨ f = 22 ∨ (10 ≤ f ∧ f ≤ 17) ∨ (39 ≤ f ∧ f ≤ 43) → tZ τ f j = tZ σ f j) : mSt P D τ := by
  have e1 := fun j => hZ 1 j (by decide)
  have e4 := fun j => hZ 4 j (by decide)
  have e10 := fun j => hZ 10 j (by decide)
  have e11 := fun j => hZ 11 j (by decide)
  have e12 := fun j => hZ 12 j (by decide)
  have e13 := fun j => hZ 13 j (by decide)
  have e14 := fun j => hZ 14 j (by decide)
  have e15 := fun j => hZ 15 j (by decide)
  have e16 := fun j => hZ 16 j (by decide)
  have e17 := fun j => hZ 17 j (by decide)
  have e22 := fun j => hZ 22 j (by decide)
  have e39 := fun j => hZ 39 j (by decide)
  have e40 := fun j => hZ 40 j (by decide)
  have e41 := fun j => hZ 41 j (by decide)
  have e42 := fun j => hZ 42 j (by decide)
  have e43 := fun j => hZ 43 j (by decide)
  simp only [mSt, mSc, mArr, mGr, tCold, tTaken, hC, hG, hS, hQ, e1, e4, e10, e11, e12, e13, e14, e15, e16, e17, e22, e39, e40, e41, e42, e43] at h ⊢
  exact h
section M7B
variable {D : KI → Nat → Int32} {G : KI → Nat → Int64} {P : Nat} {σ : KT}
theorem mTop_half (h : mTop D σ) (n : Int32) : mTop (kput D (7, 4, 0) 1 n) (tset σ 38 0 n) := by
  obtain ⟨⟨a, b, c⟩, d, e, f⟩ := h
  refine ⟨⟨by simp [kput, tZ_tset, zup_eq], by simp [kput, b, tC_tset], by simp [kput, c, tL_tset]⟩, fun x hx => ?_, fun x hx => ?_, fun x hx => ?_⟩
  · rw [tZ_ne (by decide)]; simp [kput, d x hx]
  · rw [tZ_ne (by decide)]; simp [kput, e x hx]
  · rw [tZ_ne (by decide)]; simp [kput, f x hx]
theorem mTop_lane (h : mTop D σ) : mTop (kput D (7, 4, 0) 3 (nI (tL σ + 1))) (mkLane σ) := by
  obtain ⟨⟨a, b, c⟩, d, e, f⟩ := h
  refine ⟨⟨by simp [kput, a]; rfl, by simp [kput, b]; rfl, by simp [kput]; rfl⟩, fun x hx => ?_, fun x hx => ?_, fun x hx => ?_⟩
  · have := d x hx; simp [kput, this]; rfl
  · have := e x hx; simp [kput, this]; rfl
  · have := f x hx; simp [kput, this]; rfl
theorem mTop_shut (h : mTop D σ) (l : Nat) (b : Int32) : mTop (kput D (8, 4, 1) l b) (tset σ 21 l b) := by
  obtain ⟨⟨a, b', c⟩, d, e, f⟩ := h
  refine ⟨⟨by rw [tZ_ne (by decide)]; simp [kput, a], by simp [kput, b', tC_tset], by simp [kput, c, tL_tset]⟩, fun x hx => ?_, fun x hx => ?_, fun x hx => ?_⟩
  · rw [tZ_ne (by decide)]; have := d x hx; simp [kput, this]
  · by_cases hxl : x = l
    · subst hxl; rw [tZ_tset, zup_eq]; simp [kput]
    · rw [tZ_tset, zup_ne2 hxl]; have := e x hx; simp [kput, this, hxl]
  · rw [tZ_ne (by decide)]; have := f x hx; simp [kput, this]
theorem mTop_wind (h : mTop D σ) (t : Nat) (v : Int32) : mTop (kput D (8, 4, 2) t v) (tset σ 50 t v) := by
  obtain ⟨⟨a, b', c⟩, d, e, f⟩ := h
  refine ⟨⟨by rw [tZ_ne (by decide)]; simp [kput, a], by simp [kput, b', tC_tset], by simp [kput, c, tL_tset]⟩, fun x hx => ?_, fun x hx => ?_, fun x hx => ?_⟩
  · rw [tZ_ne (by decide)]; have := d x hx; simp [kput, this]
  · rw [tZ_ne (by decide)]; have := e x hx; simp [kput, this]
  · by_cases hxl : x = t
    · subst hxl; rw [tZ_tset, zup_eq]; simp [kput]
    · rw [tZ_tset, zup_ne2 hxl]; have := f x hx; simp [kput, this, hxl]
theorem off_4 {a b j : Nat} {v : Int32} : ∀ i : KI, (i.2.1 < 2 ∨ 4 < i.2.1) → kput D (a, 4, b) j v i = D i := fun i hi => by
  have : i ≠ (a, 4, b) := fun z => by subst z; rcases hi with h | h <;> revert h <;> simp
  funext x
  simp [kput, this]
theorem off_2 {D' : KI → Nat → Int32} (ho : kOff 2 D' (kput D (7, 4, 0) 0 0)) : ∀ i : KI, (i.2.1 < 2 ∨ 4 < i.2.1) → D' i = D i := fun i hi => (ho i (by omega)).trans (off_7 i hi)
theorem thr_2 {D' : KI → Nat → Int32} (ho : kOff 2 D' (kput D (7, 4, 0) 0 0)) : D' (7, 4, 0) 0 = 0 := by
  rw [ho _ (by decide)]; simp [kput]
theorem onRope_0 (hs : kS σ) : tOnRope σ ≤ 0 ↔ tOnRope σ = 0 := by
  have h1 := hs.slen
  have h2 := hs.1.1
  have e : tOnRope σ = nI (tC σ - (tS σ).length) := nI_subn h1
  rw [e]
  constructor
  · intro h
    have : ¬ 0 < tC σ - (tS σ).length := fun z => nI_nle z (by omega) h
    have h3 : tC σ - (tS σ).length = 0 := by omega
    rw [h3]; rfl
  · intro h
    rw [h]; exact Int32.le_refl _
theorem m7_stretch (ht : mTop D σ) (hm : mSt 2 D σ) (hs : kS σ) (n : Int32) : SpQ mX7_stretch 0 0 [kR (some (7, 4, 0)), kI n] (km D G) (fun v M' => ((2 ≤ n ∧ n ≤ 12) ∧ tOnRope σ = 0 ∧ v = some (kI (tZ σ 38 0)) ∧ mPub D G (tset σ 38 0 n) 0 M') ∨ (¬ (2 ≤ n ∧ n ≤ 12) ∧ v = some (kI 0) ∧ mPub D G σ 1 M') ∨ ((2 ≤ n ∧ n ≤ 12) ∧ ¬ tOnRope σ = 0 ∧ v = some (kI 0) ∧ mPub D G σ 2 M')) := by
  refine SpQ_of (own := 7) (ini := false) (by decide +kernel) rfl (by decide) (Nat.le_of_ble_eq_true rfl) ?_
  intro X hC hE hL0
  have h7 := mLive7
  have hx := mLive (P := 2) (Or.inl rfl)
  have ht0 := mTop_thr ht 0
  have hm0 := mSt_7 (Or.inl rfl) hm 0 0
  have q1 : kput D (7, 4, 0) 0 0 (7, 4, 0) 1 = tZ σ 38 0 := ht0.1.1
  refine kwX7_stretch_0 hC hE ?_
  simp only [kbX7_stretch_0, mX7_stretch, kblk, kstp, kent, kpad, kget, kst1, kst2, kc2, cond_false, cond_true, kfv, kfit, kOkf, kputv, kputD, kputG, kcpy, kcat, kRR, kNN, true_and, and_true, if_true, if_false, if_pos, Nat.reduceAdd, Nat.reduceEqDiff, Nat.reduceLeDiff, Nat.reduceLT, reduceIte, Prod.mk.injEq, eq_self, false_and, and_false, reduceCtorEq, Nat.reduceSub, List.reverse_cons, List.reverse_nil, List.nil_append, List.cons_append, Option.toList_some, Option.toList_none, not_true_eq_false, not_false_eq_true, h7]
  refine KW_callS hC (by decide +kernel) kl7_41 (by decide) ((m7_isIn (km (kput D (7, 4, 0) 0 0) G) n 2 12)) rfl rfl (by simp [kOkL, kOk, h7]) (by simp [kOkS]) (Nat.le_of_ble_eq_true rfl) (Nat.le_of_ble_eq_true rfl) (Nat.le_of_ble_eq_true rfl) ?_
  rintro v M' ⟨rfl, rfl⟩
  refine kwX7_stretch_12 hC hE ?_
  simp only [kbX7_stretch_12, mX7_stretch, kblk, kstp, kent, kpad, kget, kst1, kst2, kc2, cond_false, cond_true, kfv, kfit, kOkf, kputv, kputD, kputG, kcpy, kcat, kRR, kNN, true_and, and_true, if_true, if_false, if_pos, Nat.reduceAdd, Nat.reduceEqDiff, Nat.reduceLeDiff, Nat.reduceLT, reduceIte, Prod.mk.injEq, eq_self, false_and, and_false, reduceCtorEq, Nat.reduceSub, List.reverse_cons, List.reverse_nil, List.nil_append, List.cons_append, Option.toList_some, Option.toList_none, not_true_eq_false, not_false_eq_true]
  refine ⟨fun h => ?_, fun h => ?_⟩
  · have hc : 2 ≤ n ∧ n ≤ 12 := Classical.byContradiction fun z => h (if_neg z)
    refine kwX7_stretch_21 hC hE ?_
    simp only [kbX7_stretch_21, mX7_stretch, kblk, kstp, kent, kpad, kget, kst1, kst2, kc2, cond_false, cond_true, kfv, kfit, kOkf, kputv, kputD, kputG, kcpy, kcat, kRR, kNN, true_and, and_true, if_true, if_false, if_pos, Nat.reduceAdd, Nat.reduceEqDiff, Nat.reduceLeDiff, Nat.reduceLT, reduceIte, Prod.mk.injEq, eq_self, false_and, and_false, reduceCtorEq, Nat.reduceSub, List.reverse_cons, List.reverse_nil, List.nil_append, List.cons_append, Option.toList_some, Option.toList_none, not_true_eq_false, not_false_eq_true, h7]
    refine KW_callV hC (by decide +kernel) kl7_52 (by decide) ((m_onRope (Or.inl rfl) ht0 hm0)) rfl rfl (Nat.le_of_ble_eq_true rfl) rfl hx (by simp [kOkL, kOk, h7, hx]) (by simp [kOkS]) (Nat.le_of_ble_eq_true rfl) (Nat.le_of_ble_eq_true rfl) (Nat.le_of_ble_eq_true rfl) ?_
    rintro v M' ⟨rfl, rfl⟩
    refine kwX7_stretch_28 hC hE ?_
    simp only [kbX7_stretch_28, mX7_stretch, kblk, kstp, kent, kpad, kget, kst1, kst2, kc2, cond_false, cond_true, kfv, kfit, kOkf, kputv, kputD, kputG, kcpy, kcat, kRR, kNN, true_and, and_true, if_true, if_false, if_pos, Nat.reduceAdd, Nat.reduceEqDiff, Nat.reduceLeDiff, Nat.reduceLT, reduceIte, Prod.mk.injEq, eq_self, false_and, and_false, reduceCtorEq, Nat.reduceSub, List.reverse_cons, List.reverse_nil, List.nil_append, List.cons_append, Option.toList_some, Option.toList_none, not_true_eq_false, not_false_eq_true]
    refine ⟨fun h2 => ?_, fun h2 => ?_⟩
    · refine kwX7_stretch_37 hC hE ?_
      simp only [kbX7_stretch_37, mX7_stretch, kblk, kstp, kent, kpad, kget, kst1, kst2, kc2, cond_false, cond_true, kfv, kfit, kOkf, kputv, kputD, kputG, kcpy, kcat, kRR, kNN, true_and, and_true, if_true, if_false, if_pos, Nat.reduceAdd, Nat.reduceEqDiff, Nat.reduceLeDiff, Nat.reduceLT, reduceIte, Prod.mk.injEq, eq_self, false_and, and_false, reduceCtorEq, Nat.reduceSub, List.reverse_cons, List.reverse_nil, List.nil_append, List.cons_append, Option.toList_some, Option.toList_none, not_true_eq_false, not_false_eq_true, h7, q1]
      refine ⟨Or.inl ⟨hc, (onRope_0 hs).mp h2, rfl, mPub.of (by simp [kput]) (mTop_half ht0 n) ?_ (fun i hi => (off_4 i hi).trans (off_7 i hi))⟩, trivial, Nat.le_refl _, Nat.le_refl _⟩
      exact mSt_7 (Or.inl rfl) (mSt_congr3 (τ := tset σ 38 0 n) hm0 rfl rfl rfl rfl (fun f j hf => tZ_ne (by omega))) 1 n
    · have h3 : ¬ tOnRope σ = 0 := fun z => h2 ((onRope_0 hs).mpr z)
      refine kwX7_stretch_31 hC hE ?_
      simp only [kbX7_stretch_31, mX7_stretch, kblk, kstp, kent, kpad, kget, kst1, kst2, kc2, cond_false, cond_true, kfv, kfit, kOkf, kputv, kputD, kputG, kcpy, kcat, kRR, kNN, true_and, and_true, if_true, if_false, if_pos, Nat.reduceAdd, Nat.reduceEqDiff, Nat.reduceLeDiff, Nat.reduceLT, reduceIte, Prod.mk.injEq, eq_self, false_and, and_false, reduceCtorEq, Nat.reduceSub, List.reverse_cons, List.reverse_nil, List.nil_append, List.cons_append, Option.toList_some, Option.toList_none, not_true_eq_false, not_false_eq_true]
      refine KW_callV hC (by decide +kernel) kl7_48 (by decide) ((m7_no 2)) rfl rfl (Nat.le_of_ble_eq_true rfl) rfl h7 (by simp [kOkL, kOk, h7]) (by simp [kOkS]) (Nat.le_of_ble_eq_true rfl) (Nat.le_of_ble_eq_true rfl) (Nat.le_of_ble_eq_true rfl) ?_
      rintro v M' ⟨rfl, rfl⟩
      refine kwX7_stretch_36 hC hE ?_
      simp only [kbX7_stretch_36, mX7_stretch, kblk, kstp, kent, kpad, kget, kst1, kst2, kc2, cond_false, cond_true, kfv, kfit, kOkf, kputv, kputD, kputG, kcpy, kcat, kRR, kNN, true_and, and_true, if_true, if_false, if_pos, Nat.reduceAdd, Nat.reduceEqDiff, Nat.reduceLeDiff, Nat.reduceLT, reduceIte, Prod.mk.injEq, eq_self, false_and, and_false, reduceCtorEq, Nat.reduceSub, List.reverse_cons, List.reverse_nil, List.nil_append, List.cons_append, Option.toList_some, Option.toList_none, not_true_eq_false, not_false_eq_true]
      exact ⟨Or.inr (Or.inr ⟨hc, h3, rfl, mPub_no ht hm 2⟩), trivial, Nat.le_refl _, Nat.le_refl _⟩
  · have hc : ¬ (2 ≤ n ∧ n ≤ 12) := fun z => by rw [if_pos z] at h; exact absurd h (by decide)
    refine kwX7_stretch_15 hC hE ?_
    simp only [kbX7_stretch_15, mX7_stretch, kblk, kstp, kent, kpad, kget, kst1, kst2, kc2, cond_false, cond_true, kfv, kfit, kOkf, kputv, kputD, kputG, kcpy, kcat, kRR, kNN, true_and, and_true, if_true, if_false, if_pos, Nat.reduceAdd, Nat.reduceEqDiff, Nat.reduceLeDiff, Nat.reduceLT, reduceIte, Prod.mk.injEq, eq_self, false_and, and_false, reduceCtorEq, Nat.reduceSub, List.reverse_cons, List.reverse_nil, List.nil_append, List.cons_append, Option.toList_some, Option.toList_none, not_true_eq_false, not_false_eq_true]
    refine KW_callV hC (by decide +kernel) kl7_48 (by decide) ((m7_no 1)) rfl rfl (Nat.le_of_ble_eq_true rfl) rfl h7 (by simp [kOkL, kOk, h7]) (by simp [kOkS]) (Nat.le_of_ble_eq_true rfl) (Nat.le_of_ble_eq_true rfl) (Nat.le_of_ble_eq_true rfl) ?_
    rintro v M' ⟨rfl, rfl⟩
    refine kwX7_stretch_20 hC hE ?_
    simp only [kbX7_stretch_20, mX7_stretch, kblk, kstp, kent, kpad, kget, kst1, kst2, kc2, cond_false, cond_true, kfv, kfit, kOkf, kputv, kputD, kputG, kcpy, kcat, kRR, kNN, true_and, and_true, if_true, if_false, if_pos, Nat.reduceAdd, Nat.reduceEqDiff, Nat.reduceLeDiff, Nat.reduceLT, reduceIte, Prod.mk.injEq, eq_self, false_and, and_false, reduceCtorEq, Nat.reduceSub, List.reverse_cons, List.reverse_nil, List.nil_append, List.cons_append, Option.toList_some, Option.toList_none, not_true_eq_false, not_false_eq_true]
    exact ⟨Or.inr (Or.inl ⟨hc, rfl, mPub_no ht hm 1⟩), trivial, Nat.le_refl _, Nat.le_refl _⟩
theorem m7_addLane (ht : mTop D σ) (hm : mSt 2 D σ) (hL : tL σ ≤ 4) : SpQ mX7_addLane 0 0 [kR (some (7, 4, 0))] (km D G) (fun v M' => (tL σ < 4 ∧ v = some (kI (nI (tL σ))) ∧ mPub D G (mkLane σ) 0 M') ∨ (¬ tL σ < 4 ∧ v = some (kI 0) ∧ mPub D G σ 1 M')) := by
  refine SpQ_of (own := 7) (ini := false) (by decide +kernel) rfl (by decide) (Nat.le_of_ble_eq_true rfl) ?_
  intro X hC hE hL0
  have h7 := mLive7
  have hx := mLive (P := 2) (Or.inl rfl)
  have ht0 := mTop_thr ht 0
  have hm0 := mSt_7 (Or.inl rfl) hm 0 0
  have q3 : kput D (7, 4, 0) 0 0 (7, 4, 0) 3 = nI (tL σ) := ht0.1.2.2
  have e1 : ∀ v, kput (kput D (7, 4, 0) 0 0) (7, 4, 0) 3 v (7, 4, 0) 3 = v := fun v => by simp [kput]
  have hb : nI (tL σ + 1) - 1 = nI (tL σ) := nI_subn (b := 1) (by omega)
  refine kwX7_addLane_0 hC hE ?_
  simp only [kbX7_addLane_0, mX7_addLane, kblk, kstp, kent, kpad, kget, kst1, kst2, kc2, cond_false, cond_true, kfv, kfit, kOkf, kputv, kputD, kputG, kcpy, kcat, kRR, kNN, true_and, and_true, if_true, if_false, if_pos, Nat.reduceAdd, Nat.reduceEqDiff, Nat.reduceLeDiff, Nat.reduceLT, reduceIte, Prod.mk.injEq, eq_self, false_and, and_false, reduceCtorEq, Nat.reduceSub, List.reverse_cons, List.reverse_nil, List.nil_append, List.cons_append, Option.toList_some, Option.toList_none, not_true_eq_false, not_false_eq_true, h7, q3]
  refine ⟨fun h => ?_, fun h => ?_⟩
  · have hlt : tL σ < 4 := by
      have : tL σ ≠ 4 := fun z => h (by rw [z]; rfl)
      omega
    refine kwX7_addLane_19 hC hE ?_
    simp only [kbX7_addLane_19, mX7_addLane, kblk, kstp, kent, kpad, kget, kst1, kst2, kc2, cond_false, cond_true, kfv, kfit, kOkf, kputv, kputD, kputG, kcpy, kcat, kRR, kNN, true_and, and_true, if_true, if_false, if_pos, Nat.reduceAdd, Nat.reduceEqDiff, Nat.reduceLeDiff, Nat.reduceLT, reduceIte, Prod.mk.injEq, eq_self, false_and, and_false, reduceCtorEq, Nat.reduceSub, List.reverse_cons, List.reverse_nil, List.nil_append, List.cons_append, Option.toList_some, Option.toList_none, not_true_eq_false, not_false_eq_true, h7, q3, e1, nI_1, hb]
    refine ⟨Or.inl ⟨hlt, rfl, mPub.of (by simp [kput]) (mTop_lane ht0) ?_ (fun i hi => (off_4 i hi).trans (off_7 i hi))⟩, trivial, Nat.le_refl _, Nat.le_refl _⟩
    exact mSt_7 (Or.inl rfl) hm0 3 _
  · have hlt : ¬ tL σ < 4 := fun z => by
      have := (nI_eq (b := 4) (by omega) (by decide)).mp h
      omega
    refine kwX7_addLane_13 hC hE ?_
    simp only [kbX7_addLane_13, mX7_addLane, kblk, kstp, kent, kpad, kget, kst1, kst2, kc2, cond_false, cond_true, kfv, kfit, kOkf, kputv, kputD, kputG, kcpy, kcat, kRR, kNN, true_and, and_true, if_true, if_false, if_pos, Nat.reduceAdd, Nat.reduceEqDiff, Nat.reduceLeDiff, Nat.reduceLT, reduceIte, Prod.mk.injEq, eq_self, false_and, and_false, reduceCtorEq, Nat.reduceSub, List.reverse_cons, List.reverse_nil, List.nil_append, List.cons_append, Option.toList_some, Option.toList_none, not_true_eq_false, not_false_eq_true]
    refine KW_callV hC (by decide +kernel) kl7_48 (by decide) ((m7_no 1)) rfl rfl (Nat.le_of_ble_eq_true rfl) rfl h7 (by simp [kOkL, kOk, h7]) (by simp [kOkS]) (Nat.le_of_ble_eq_true rfl) (Nat.le_of_ble_eq_true rfl) (Nat.le_of_ble_eq_true rfl) ?_
    rintro v M' ⟨rfl, rfl⟩
    refine kwX7_addLane_18 hC hE ?_
    simp only [kbX7_addLane_18, mX7_addLane, kblk, kstp, kent, kpad, kget, kst1, kst2, kc2, cond_false, cond_true, kfv, kfit, kOkf, kputv, kputD, kputG, kcpy, kcat, kRR, kNN, true_and, and_true, if_true, if_false, if_pos, Nat.reduceAdd, Nat.reduceEqDiff, Nat.reduceLeDiff, Nat.reduceLT, reduceIte, Prod.mk.injEq, eq_self, false_and, and_false, reduceCtorEq, Nat.reduceSub, List.reverse_cons, List.reverse_nil, List.nil_append, List.cons_append, Option.toList_some, Option.toList_none, not_true_eq_false, not_false_eq_true]
    exact ⟨Or.inr ⟨hlt, rfl, mPub_no ht hm 1⟩, trivial, Nat.le_refl _, Nat.le_refl _⟩
theorem lt24 {t : Int32} : t ≤ 23 ↔ t < 24 := by
  rw [Int32.le_iff_toInt_le, Int32.lt_iff_toInt_lt, show (23 : Int32).toInt = 23 from rfl, show (24 : Int32).toInt = 24 from rfl]
  omega
theorem m7_setWind (ht : mTop D σ) (hm : mSt 2 D σ) (t u : Int32) : SpQ mX7_setWind 0 0 [kR (some (7, 4, 0)), kI t, kI u] (km D G) (fun v M' => (∃ i, i < 24 ∧ t = nI i ∧ (0 ≤ u ∧ u ≤ 9) ∧ v = some (kI (tZ σ 50 i)) ∧ mPub D G (tset σ 50 i u) 0 M') ∨ (¬ (0 ≤ t ∧ t < 24) ∧ v = some (kI 0) ∧ mPub D G σ 1 M') ∨ ((0 ≤ t ∧ t < 24) ∧ ¬ (0 ≤ u ∧ u ≤ 9) ∧ v = some (kI 0) ∧ mPub D G σ 2 M')) := by
  refine SpQ_of (own := 7) (ini := false) (by decide +kernel) rfl (by decide) (Nat.le_of_ble_eq_true rfl) ?_
  intro X hC hE hL0
  have h7 := mLive7
  have hx := mLive (P := 2) (Or.inl rfl)
  have ht0 := mTop_thr ht 0
  have hm0 := mSt_7 (Or.inl rfl) hm 0 0
  have l42 := mLive4 (k := 2) (by decide)
  have n42 : kN8 4 2 = 24 := rfl
  refine kwX7_setWind_0 hC hE ?_
  simp only [kbX7_setWind_0, mX7_setWind, kblk, kstp, kent, kpad, kget, kst1, kst2, kc2, cond_false, cond_true, kfv, kfit, kOkf, kputv, kputD, kputG, kcpy, kcat, kRR, kNN, true_and, and_true, if_true, if_false, if_pos, Nat.reduceAdd, Nat.reduceEqDiff, Nat.reduceLeDiff, Nat.reduceLT, reduceIte, Prod.mk.injEq, eq_self, false_and, and_false, reduceCtorEq, Nat.reduceSub, List.reverse_cons, List.reverse_nil, List.nil_append, List.cons_append, Option.toList_some, Option.toList_none, not_true_eq_false, not_false_eq_true, h7]
  refine KW_callS hC (by decide +kernel) kl7_41 (by decide) ((m7_isIn (km (kput D (7, 4, 0) 0 0) G) t 0 23)) rfl rfl (by simp [kOkL, kOk, h7]) (by simp [kOkS]) (Nat.le_of_ble_eq_true rfl) (Nat.le_of_ble_eq_true rfl) (Nat.le_of_ble_eq_true rfl) ?_
  rintro v M' ⟨rfl, rfl⟩
  refine kwX7_setWind_12 hC hE ?_
  simp only [kbX7_setWind_12, mX7_setWind, kblk, kstp, kent, kpad, kget, kst1, kst2, kc2, cond_false, cond_true, kfv, kfit, kOkf, kputv, kputD, kputG, kcpy, kcat, kRR, kNN, true_and, and_true, if_true, if_false, if_pos, Nat.reduceAdd, Nat.reduceEqDiff, Nat.reduceLeDiff, Nat.reduceLT, reduceIte, Prod.mk.injEq, eq_self, false_and, and_false, reduceCtorEq, Nat.reduceSub, List.reverse_cons, List.reverse_nil, List.nil_append, List.cons_append, Option.toList_some, Option.toList_none, not_true_eq_false, not_false_eq_true]
  refine ⟨fun h => ?_, fun h => ?_⟩
  · have hc0 : 0 ≤ t ∧ t ≤ 23 := Classical.byContradiction fun z => h (if_neg z)
    have hc : 0 ≤ t ∧ t < 24 := ⟨hc0.1, lt24.mp hc0.2⟩
    refine kwX7_setWind_21 hC hE ?_
    simp only [kbX7_setWind_21, mX7_setWind, kblk, kstp, kent, kpad, kget, kst1, kst2, kc2, cond_false, cond_true, kfv, kfit, kOkf, kputv, kputD, kputG, kcpy, kcat, kRR, kNN, true_and, and_true, if_true, if_false, if_pos, Nat.reduceAdd, Nat.reduceEqDiff, Nat.reduceLeDiff, Nat.reduceLT, reduceIte, Prod.mk.injEq, eq_self, false_and, and_false, reduceCtorEq, Nat.reduceSub, List.reverse_cons, List.reverse_nil, List.nil_append, List.cons_append, Option.toList_some, Option.toList_none, not_true_eq_false, not_false_eq_true]
    refine KW_callS hC (by decide +kernel) kl7_41 (by decide) ((m7_isIn (km (kput D (7, 4, 0) 0 0) G) u 0 9)) rfl rfl (by simp [kOkL, kOk, h7]) (by simp [kOkS]) (Nat.le_of_ble_eq_true rfl) (Nat.le_of_ble_eq_true rfl) (Nat.le_of_ble_eq_true rfl) ?_
    rintro v M' ⟨rfl, rfl⟩
    refine kwX7_setWind_28 hC hE ?_
    simp only [kbX7_setWind_28, mX7_setWind, kblk, kstp, kent, kpad, kget, kst1, kst2, kc2, cond_false, cond_true, kfv, kfit, kOkf, kputv, kputD, kputG, kcpy, kcat, kRR, kNN, true_and, and_true, if_true, if_false, if_pos, Nat.reduceAdd, Nat.reduceEqDiff, Nat.reduceLeDiff, Nat.reduceLT, reduceIte, Prod.mk.injEq, eq_self, false_and, and_false, reduceCtorEq, Nat.reduceSub, List.reverse_cons, List.reverse_nil, List.nil_append, List.cons_append, Option.toList_some, Option.toList_none, not_true_eq_false, not_false_eq_true]
    refine ⟨fun h2 => ?_, fun h2 => ?_⟩
    · have hc2 : 0 ≤ u ∧ u ≤ 9 := Classical.byContradiction fun z => h2 (if_neg z)
      obtain ⟨i, hi, rfl⟩ := in_range (n := 24) (by decide) hc
      have q50 : kput D (7, 4, 0) 0 0 (8, 4, 2) i = tZ σ 50 i := ht0.2.2.2 i hi
      refine kwX7_setWind_37 hC hE ?_
      simp only [kbX7_setWind_37, mX7_setWind, kblk, kstp, kent, kpad, kget, kst1, kst2, kc2, cond_false, cond_true, kfv, kfit, kOkf, kputv, kputD, kputG, kcpy, kcat, kRR, kNN, true_and, and_true, if_true, if_false, if_pos, Nat.reduceAdd, Nat.reduceEqDiff, Nat.reduceLeDiff, Nat.reduceLT, reduceIte, Prod.mk.injEq, eq_self, false_and, and_false, reduceCtorEq, Nat.reduceSub, List.reverse_cons, List.reverse_nil, List.nil_append, List.cons_append, Option.toList_some, Option.toList_none, not_true_eq_false, not_false_eq_true, h7, l42, n42, nI_clamp (show i < 2 ^ 31 by omega), q50]
      refine ⟨vp_in_nI hi (by omega), vp_in_nI hi (by omega), ⟨Or.inl ⟨i, hi, rfl, hc2, rfl, mPub.of (by simp [kput]) (mTop_wind ht0 i u) ?_ (fun j hj => (off_4 j hj).trans (off_7 j hj))⟩, trivial, Nat.le_refl _, Nat.le_refl _⟩⟩
      exact mSt_84 (Or.inl rfl) (mSt_congr3 (τ := tset σ 50 i u) hm0 rfl rfl rfl rfl (fun f j hf => tZ_ne (by omega))) 2 i u
    · have hc2 : ¬ (0 ≤ u ∧ u ≤ 9) := fun z => by rw [if_pos z] at h2; exact absurd h2 (by decide)
      refine kwX7_setWind_31 hC hE ?_
      simp only [kbX7_setWind_31, mX7_setWind, kblk, kstp, kent, kpad, kget, kst1, kst2, kc2, cond_false, cond_true, kfv, kfit, kOkf, kputv, kputD, kputG, kcpy, kcat, kRR, kNN, true_and, and_true, if_true, if_false, if_pos, Nat.reduceAdd, Nat.reduceEqDiff, Nat.reduceLeDiff, Nat.reduceLT, reduceIte, Prod.mk.injEq, eq_self, false_and, and_false, reduceCtorEq, Nat.reduceSub, List.reverse_cons, List.reverse_nil, List.nil_append, List.cons_append, Option.toList_some, Option.toList_none, not_true_eq_false, not_false_eq_true]
      refine KW_callV hC (by decide +kernel) kl7_48 (by decide) ((m7_no 2)) rfl rfl (Nat.le_of_ble_eq_true rfl) rfl h7 (by simp [kOkL, kOk, h7]) (by simp [kOkS]) (Nat.le_of_ble_eq_true rfl) (Nat.le_of_ble_eq_true rfl) (Nat.le_of_ble_eq_true rfl) ?_
      rintro v M' ⟨rfl, rfl⟩
      refine kwX7_setWind_36 hC hE ?_
      simp only [kbX7_setWind_36, mX7_setWind, kblk, kstp, kent, kpad, kget, kst1, kst2, kc2, cond_false, cond_true, kfv, kfit, kOkf, kputv, kputD, kputG, kcpy, kcat, kRR, kNN, true_and, and_true, if_true, if_false, if_pos, Nat.reduceAdd, Nat.reduceEqDiff, Nat.reduceLeDiff, Nat.reduceLT, reduceIte, Prod.mk.injEq, eq_self, false_and, and_false, reduceCtorEq, Nat.reduceSub, List.reverse_cons, List.reverse_nil, List.nil_append, List.cons_append, Option.toList_some, Option.toList_none, not_true_eq_false, not_false_eq_true]
      exact ⟨Or.inr (Or.inr ⟨hc, hc2, rfl, mPub_no ht hm 2⟩), trivial, Nat.le_refl _, Nat.le_refl _⟩
  · have hc : ¬ (0 ≤ t ∧ t < 24) := fun z => by rw [if_pos ⟨z.1, lt24.mpr z.2⟩] at h; exact absurd h (by decide)
    refine kwX7_setWind_15 hC hE ?_
    simp only [kbX7_setWind_15, mX7_setWind, kblk, kstp, kent, kpad, kget, kst1, kst2, kc2, cond_false, cond_true, kfv, kfit, kOkf, kputv, kputD, kputG, kcpy, kcat, kRR, kNN, true_and, and_true, if_true, if_false, if_pos, Nat.reduceAdd, Nat.reduceEqDiff, Nat.reduceLeDiff, Nat.reduceLT, reduceIte, Prod.mk.injEq, eq_self, false_and, and_false, reduceCtorEq, Nat.reduceSub, List.reverse_cons, List.reverse_nil, List.nil_append, List.cons_append, Option.toList_some, Option.toList_none, not_true_eq_false, not_false_eq_true]
    refine KW_callV hC (by decide +kernel) kl7_48 (by decide) ((m7_no 1)) rfl rfl (Nat.le_of_ble_eq_true rfl) rfl h7 (by simp [kOkL, kOk, h7]) (by simp [kOkS]) (Nat.le_of_ble_eq_true rfl) (Nat.le_of_ble_eq_true rfl) (Nat.le_of_ble_eq_true rfl) ?_
    rintro v M' ⟨rfl, rfl⟩
    refine kwX7_setWind_20 hC hE ?_
    simp only [kbX7_setWind_20, mX7_setWind, kblk, kstp, kent, kpad, kget, kst1, kst2, kc2, cond_false, cond_true, kfv, kfit, kOkf, kputv, kputD, kputG, kcpy, kcat, kRR, kNN, true_and, and_true, if_true, if_false, if_pos, Nat.reduceAdd, Nat.reduceEqDiff, Nat.reduceLeDiff, Nat.reduceLT, reduceIte, Prod.mk.injEq, eq_self, false_and, and_false, reduceCtorEq, Nat.reduceSub, List.reverse_cons, List.reverse_nil, List.nil_append, List.cons_append, Option.toList_some, Option.toList_none, not_true_eq_false, not_false_eq_true]
    exact ⟨Or.inr (Or.inl ⟨hc, rfl, mPub_no ht hm 1⟩), trivial, Nat.le_refl _, Nat.le_refl _⟩
theorem m7_shut (ht : mTop D σ) (hm : mSt 2 D σ) (hL : tL σ ≤ 4) (hbool : ∀ l, l < tL σ → tZ σ 21 l = 0 ∨ tZ σ 21 l = 1) (c b : Int32) (hb : b = 0 ∨ b = 1) : SpQ mX7_shut 0 0 [kR (some (7, 4, 0)), kI c, kI b] (km D G) (fun v M' => (∃ l, l < tL σ ∧ c = nI l ∧ v = some (kI (tZ σ 21 l)) ∧ mPub D G (tset σ 21 l b) 0 M') ∨ (¬ (0 ≤ c ∧ c < nI (tL σ)) ∧ v = some (kI 0) ∧ mPub D G σ 1 M')) := by
  refine SpQ_of (own := 7) (ini := false) (by decide +kernel) rfl (by decide) (Nat.le_of_ble_eq_true rfl) ?_
  intro X hC hE hL0
  have h7 := mLive7
  have hx := mLive (P := 2) (Or.inl rfl)
  have ht0 := mTop_thr ht 0
  have hm0 := mSt_7 (Or.inl rfl) hm 0 0
  have l41 := mLive4 (k := 1) (by decide)
  have n41 : kN8 4 1 = 4 := rfl
  refine kwX7_shut_0 hC hE ?_
  simp only [kbX7_shut_0, mX7_shut, kblk, kstp, kent, kpad, kget, kst1, kst2, kc2, cond_false, cond_true, kfv, kfit, kOkf, kputv, kputD, kputG, kcpy, kcat, kRR, kNN, true_and, and_true, if_true, if_false, if_pos, Nat.reduceAdd, Nat.reduceEqDiff, Nat.reduceLeDiff, Nat.reduceLT, reduceIte, Prod.mk.injEq, eq_self, false_and, and_false, reduceCtorEq, Nat.reduceSub, List.reverse_cons, List.reverse_nil, List.nil_append, List.cons_append, Option.toList_some, Option.toList_none, not_true_eq_false, not_false_eq_true, h7]
  refine KW_callV hC (by decide +kernel) kl7_71 (by decide) ((m7_isLane ht0 hL c)) rfl rfl (Nat.le_of_ble_eq_true rfl) rfl h7 (by simp [kOkL, kOk, h7]) (by simp [kOkS]) (Nat.le_of_ble_eq_true rfl) (Nat.le_of_ble_eq_true rfl) (Nat.le_of_ble_eq_true rfl) ?_
  rintro v M' ⟨rfl, rfl⟩
  refine kwX7_shut_10 hC hE ?_
  simp only [kbX7_shut_10, mX7_shut, kblk, kstp, kent, kpad, kget, kst1, kst2, kc2, cond_false, cond_true, kfv, kfit, kOkf, kputv, kputD, kputG, kcpy, kcat, kRR, kNN, true_and, and_true, if_true, if_false, if_pos, Nat.reduceAdd, Nat.reduceEqDiff, Nat.reduceLeDiff, Nat.reduceLT, reduceIte, Prod.mk.injEq, eq_self, false_and, and_false, reduceCtorEq, Nat.reduceSub, List.reverse_cons, List.reverse_nil, List.nil_append, List.cons_append, Option.toList_some, Option.toList_none, not_true_eq_false, not_false_eq_true]
  refine ⟨fun h => ?_, fun h => ?_⟩
  · have hc : 0 ≤ c ∧ c < nI (tL σ) := Classical.byContradiction fun z => h (if_neg z)
    obtain ⟨l, hl, rfl⟩ := in_range (show tL σ < 2 ^ 31 by omega) hc
    have hcl := nI_clamp (show l < 2 ^ 31 by omega)
    have q21 : kput D (7, 4, 0) 0 0 (8, 4, 1) l = tZ σ 21 l := ht0.2.2.1 l (by omega)
    have at57 : KW X 57 [some (kR (some (7, 4, 0))), some (kI (nI l)), some (kI b), some (kI (tZ σ 21 l))] [kI b, kI (nI l), kR (some (8, 4, 1))] (km (kput D (7, 4, 0) 0 0) G) 0 0 := by
      refine kwX7_shut_57 hC hE ?_
      simp only [kbX7_shut_57, mX7_shut, kblk, kstp, kent, kpad, kget, kst1, kst2, kc2, cond_false, cond_true, kfv, kfit, kOkf, kputv, kputD, kputG, kcpy, kcat, kRR, kNN, true_and, and_true, if_true, if_false, if_pos, Nat.reduceAdd, Nat.reduceEqDiff, Nat.reduceLeDiff, Nat.reduceLT, reduceIte, Prod.mk.injEq, eq_self, false_and, and_false, reduceCtorEq, Nat.reduceSub, List.reverse_cons, List.reverse_nil, List.nil_append, List.cons_append, Option.toList_some, Option.toList_none, not_true_eq_false, not_false_eq_true, h7, l41, n41, hcl]
      refine ⟨vp_in_nI (show l < 4 by omega) (by omega), ⟨Or.inl ⟨l, hl, rfl, rfl, mPub.of (by simp [kput]) (mTop_shut ht0 l b) ?_ (fun j hj => (off_4 j hj).trans (off_7 j hj))⟩, ?_, Nat.le_refl _, Nat.le_refl _⟩⟩
      · exact mSt_84 (Or.inl rfl) (mSt_congr3 (τ := tset σ 21 l b) hm0 rfl rfl rfl rfl (fun f j hf => tZ_ne (by omega))) 1 l b
      · exact hbool l hl
    have at42 : KW X 42 [some (kR (some (7, 4, 0))), some (kI (nI l)), some (kI b), none] [kI (tZ σ 21 l)] (km (kput D (7, 4, 0) 0 0) G) 0 0 := by
      refine kwX7_shut_42 hC hE ?_
      simp only [kbX7_shut_42, mX7_shut, kblk, kstp, kent, kpad, kget, kst1, kst2, kc2, cond_false, cond_true, kfv, kfit, kOkf, kputv, kputD, kputG, kcpy, kcat, kRR, kNN, true_and, and_true, if_true, if_false, if_pos, Nat.reduceAdd, Nat.reduceEqDiff, Nat.reduceLeDiff, Nat.reduceLT, reduceIte, Prod.mk.injEq, eq_self, false_and, and_false, reduceCtorEq, Nat.reduceSub, List.reverse_cons, List.reverse_nil, List.nil_append, List.cons_append, Option.toList_some, Option.toList_none, not_true_eq_false, not_false_eq_true, h7]
      refine ⟨fun h0 => ?_, fun h0 => ?_⟩
      · subst h0
        refine kwX7_shut_56 hC hE ?_
        simp only [kbX7_shut_56, mX7_shut, kblk, kstp, kent, kpad, kget, kst1, kst2, kc2, cond_false, cond_true, kfv, kfit, kOkf, kputv, kputD, kputG, kcpy, kcat, kRR, kNN, true_and, and_true, if_true, if_false, if_pos, Nat.reduceAdd, Nat.reduceEqDiff, Nat.reduceLeDiff, Nat.reduceLT, reduceIte, Prod.mk.injEq, eq_self, false_and, and_false, reduceCtorEq, Nat.reduceSub, List.reverse_cons, List.reverse_nil, List.nil_append, List.cons_append, Option.toList_some, Option.toList_none, not_true_eq_false, not_false_eq_true]
        exact at57
      · have hb1 : b = 1 := hb.resolve_left h0
        subst hb1
        refine kwX7_shut_52 hC hE ?_
        simp only [kbX7_shut_52, mX7_shut, kblk, kstp, kent, kpad, kget, kst1, kst2, kc2, cond_false, cond_true, kfv, kfit, kOkf, kputv, kputD, kputG, kcpy, kcat, kRR, kNN, true_and, and_true, if_true, if_false, if_pos, Nat.reduceAdd, Nat.reduceEqDiff, Nat.reduceLeDiff, Nat.reduceLT, reduceIte, Prod.mk.injEq, eq_self, false_and, and_false, reduceCtorEq, Nat.reduceSub, List.reverse_cons, List.reverse_nil, List.nil_append, List.cons_append, Option.toList_some, Option.toList_none, not_true_eq_false, not_false_eq_true]
        exact at57
    refine kwX7_shut_27 hC hE ?_
    simp only [kbX7_shut_27, mX7_shut, kblk, kstp, kent, kpad, kget, kst1, kst2, kc2, cond_false, cond_true, kfv, kfit, kOkf, kputv, kputD, kputG, kcpy, kcat, kRR, kNN, true_and, and_true, if_true, if_false, if_pos, Nat.reduceAdd, Nat.reduceEqDiff, Nat.reduceLeDiff, Nat.reduceLT, reduceIte, Prod.mk.injEq, eq_self, false_and, and_false, reduceCtorEq, Nat.reduceSub, List.reverse_cons, List.reverse_nil, List.nil_append, List.cons_append, Option.toList_some, Option.toList_none, not_true_eq_false, not_false_eq_true, h7, l41, n41, hcl, q21]
    refine ⟨vp_in_nI (show l < 4 by omega) (by omega), fun h1 => ?_, fun h1 => ?_⟩
    · have h0 : tZ σ 21 l = 0 := (hbool l hl).resolve_right h1
      rw [h0] at at42
      refine kwX7_shut_41 hC hE ?_
      simp only [kbX7_shut_41, mX7_shut, kblk, kstp, kent, kpad, kget, kst1, kst2, kc2, cond_false, cond_true, kfv, kfit, kOkf, kputv, kputD, kputG, kcpy, kcat, kRR, kNN, true_and, and_true, if_true, if_false, if_pos, Nat.reduceAdd, Nat.reduceEqDiff, Nat.reduceLeDiff, Nat.reduceLT, reduceIte, Prod.mk.injEq, eq_self, false_and, and_false, reduceCtorEq, Nat.reduceSub, List.reverse_cons, List.reverse_nil, List.nil_append, List.cons_append, Option.toList_some, Option.toList_none, not_true_eq_false, not_false_eq_true]
      exact at42
    · rw [h1] at at42
      refine kwX7_shut_37 hC hE ?_
      simp only [kbX7_shut_37, mX7_shut, kblk, kstp, kent, kpad, kget, kst1, kst2, kc2, cond_false, cond_true, kfv, kfit, kOkf, kputv, kputD, kputG, kcpy, kcat, kRR, kNN, true_and, and_true, if_true, if_false, if_pos, Nat.reduceAdd, Nat.reduceEqDiff, Nat.reduceLeDiff, Nat.reduceLT, reduceIte, Prod.mk.injEq, eq_self, false_and, and_false, reduceCtorEq, Nat.reduceSub, List.reverse_cons, List.reverse_nil, List.nil_append, List.cons_append, Option.toList_some, Option.toList_none, not_true_eq_false, not_false_eq_true]
      exact at42
  · have hc : ¬ (0 ≤ c ∧ c < nI (tL σ)) := fun z => by rw [if_pos z] at h; exact absurd h (by decide)
    refine kwX7_shut_13 hC hE ?_
    simp only [kbX7_shut_13, mX7_shut, kblk, kstp, kent, kpad, kget, kst1, kst2, kc2, cond_false, cond_true, kfv, kfit, kOkf, kputv, kputD, kputG, kcpy, kcat, kRR, kNN, true_and, and_true, if_true, if_false, if_pos, Nat.reduceAdd, Nat.reduceEqDiff, Nat.reduceLeDiff, Nat.reduceLT, reduceIte, Prod.mk.injEq, eq_self, false_and, and_false, reduceCtorEq, Nat.reduceSub, List.reverse_cons, List.reverse_nil, List.nil_append, List.cons_append, Option.toList_some, Option.toList_none, not_true_eq_false, not_false_eq_true]
    refine KW_callV hC (by decide +kernel) kl7_48 (by decide) ((m7_no 1)) rfl rfl (Nat.le_of_ble_eq_true rfl) rfl h7 (by simp [kOkL, kOk, h7]) (by simp [kOkS]) (Nat.le_of_ble_eq_true rfl) (Nat.le_of_ble_eq_true rfl) (Nat.le_of_ble_eq_true rfl) ?_
    rintro v M' ⟨rfl, rfl⟩
    refine kwX7_shut_18 hC hE ?_
    simp only [kbX7_shut_18, mX7_shut, kblk, kstp, kent, kpad, kget, kst1, kst2, kc2, cond_false, cond_true, kfv, kfit, kOkf, kputv, kputD, kputG, kcpy, kcat, kRR, kNN, true_and, and_true, if_true, if_false, if_pos, Nat.reduceAdd, Nat.reduceEqDiff, Nat.reduceLeDiff, Nat.reduceLT, reduceIte, Prod.mk.injEq, eq_self, false_and, and_false, reduceCtorEq, Nat.reduceSub, List.reverse_cons, List.reverse_nil, List.nil_append, List.cons_append, Option.toList_some, Option.toList_none, not_true_eq_false, not_false_eq_true]
    refine ⟨fun _ => ?_, fun z => z.elim⟩
    refine kwX7_shut_25 hC hE ?_
    simp only [kbX7_shut_25, mX7_shut, kblk, kstp, kent, kpad, kget, kst1, kst2, kc2, cond_false, cond_true, kfv, kfit, kOkf, kputv, kputD, kputG, kcpy, kcat, kRR, kNN, true_and, and_true, if_true, if_false, if_pos, Nat.reduceAdd, Nat.reduceEqDiff, Nat.reduceLeDiff, Nat.reduceLT, reduceIte, Prod.mk.injEq, eq_self, false_and, and_false, reduceCtorEq, Nat.reduceSub, List.reverse_cons, List.reverse_nil, List.nil_append, List.cons_append, Option.toList_some, Option.toList_none, not_true_eq_false, not_false_eq_true]
    refine kwX7_shut_26 hC hE ?_
    simp only [kbX7_shut_26, mX7_shut, kblk, kstp, kent, kpad, kget, kst1, kst2, kc2, cond_false, cond_true, kfv, kfit, kOkf, kputv, kputD, kputG, kcpy, kcat, kRR, kNN, true_and, and_true, if_true, if_false, if_pos, Nat.reduceAdd, Nat.reduceEqDiff, Nat.reduceLeDiff, Nat.reduceLT, reduceIte, Prod.mk.injEq, eq_self, false_and, and_false, reduceCtorEq, Nat.reduceSub, List.reverse_cons, List.reverse_nil, List.nil_append, List.cons_append, Option.toList_some, Option.toList_none, not_true_eq_false, not_false_eq_true]
    exact ⟨Or.inr ⟨hc, rfl, mPub_no ht hm 1⟩, Or.inl rfl, Nat.le_refl _, Nat.le_refl _⟩
theorem m7_addChair (ht : mTop D σ) (hm : mSt 2 D σ) (hs : kS σ) (hf : tC σ < 20 → tZ σ 1 (tC σ) = -1 ∧ tZ σ 4 (tC σ) = 0) (n : Int32) : SpQ mX7_addChair 0 0 [kR (some (7, 4, 0)), kI n] (km D G) (fun v M' => ((1 ≤ n ∧ n ≤ 6) ∧ tC σ < 20 ∧ v = some (kI (nI (tC σ))) ∧ mPub D G (mkChair σ n) 0 M') ∨ (¬ (1 ≤ n ∧ n ≤ 6) ∧ v = some (kI 0) ∧ mPub D G σ 1 M') ∨ ((1 ≤ n ∧ n ≤ 6) ∧ ¬ tC σ < 20 ∧ v = some (kI 0) ∧ mPub D G σ 2 M')) := by
  refine SpQ_of (own := 7) (ini := false) (by decide +kernel) rfl (by decide) (Nat.le_of_ble_eq_true rfl) ?_
  intro X hC hE hL0
  have h7 := mLive7
  have hx := mLive (P := 2) (Or.inl rfl)
  have ht0 := mTop_thr ht 0
  have hm0 := mSt_7 (Or.inl rfl) hm 0 0
  have hC20 := hs.1.1
  have hlen := hs.slen
  have q2 : kput D (7, 4, 0) 0 0 (7, 4, 0) 2 = nI (tC σ) := ht0.1.2.1
  have q8 : kput D (7, 4, 0) 0 0 (6, 2, 0) 8 = nI (tS σ).length := hm0.1.2.2.2.2.2.2.2.2
  have l40 := mLive4 (k := 0) (by decide)
  have n40 : kN8 4 0 = 20 := rfl
  have l9 := mLive8 (P := 2) (k := 9) (Or.inl rfl) (by decide) (by decide)
  have l10 := mLive8 (P := 2) (k := 10) (Or.inl rfl) (by decide) (by decide)
  have n9 : kN8 2 9 = 20 := rfl
  have n10 : kN8 2 10 = 20 := rfl
  have hcc := nI_clamp (show tC σ < 2 ^ 31 by omega)
  have hcs := nI_clamp (show (tS σ).length < 2 ^ 31 by omega)
  have hb : nI (tC σ + 1) - 1 = nI (tC σ) := nI_subn (b := 1) (by omega)
  refine kwX7_addChair_0 hC hE ?_
  simp only [kbX7_addChair_0, mX7_addChair, kblk, kstp, kent, kpad, kget, kst1, kst2, kc2, cond_false, cond_true, kfv, kfit, kOkf, kputv, kputD, kputG, kcpy, kcat, kRR, kNN, true_and, and_true, if_true, if_false, if_pos, Nat.reduceAdd, Nat.reduceEqDiff, Nat.reduceLeDiff, Nat.reduceLT, reduceIte, Prod.mk.injEq, eq_self, false_and, and_false, reduceCtorEq, Nat.reduceSub, List.reverse_cons, List.reverse_nil, List.nil_append, List.cons_append, Option.toList_some, Option.toList_none, not_true_eq_false, not_false_eq_true, h7]
  refine KW_callS hC (by decide +kernel) kl7_41 (by decide) ((m7_isIn (km (kput D (7, 4, 0) 0 0) G) n 1 6)) rfl rfl (by simp [kOkL, kOk, h7]) (by simp [kOkS]) (Nat.le_of_ble_eq_true rfl) (Nat.le_of_ble_eq_true rfl) (Nat.le_of_ble_eq_true rfl) ?_
  rintro v M' ⟨rfl, rfl⟩
  refine kwX7_addChair_12 hC hE ?_
  simp only [kbX7_addChair_12, mX7_addChair, kblk, kstp, kent, kpad, kget, kst1, kst2, kc2, cond_false, cond_true, kfv, kfit, kOkf, kputv, kputD, kputG, kcpy, kcat, kRR, kNN, true_and, and_true, if_true, if_false, if_pos, Nat.reduceAdd, Nat.reduceEqDiff, Nat.reduceLeDiff, Nat.reduceLT, reduceIte, Prod.mk.injEq, eq_self, false_and, and_false, reduceCtorEq, Nat.reduceSub, List.reverse_cons, List.reverse_nil, List.nil_append, List.cons_append, Option.toList_some, Option.toList_none, not_true_eq_false, not_false_eq_true]
  refine ⟨fun h => ?_, fun h => ?_⟩
  · have hc : 1 ≤ n ∧ n ≤ 6 := Classical.byContradiction fun z => h (if_neg z)
    refine kwX7_addChair_21 hC hE ?_
    simp only [kbX7_addChair_21, mX7_addChair, kblk, kstp, kent, kpad, kget, kst1, kst2, kc2, cond_false, cond_true, kfv, kfit, kOkf, kputv, kputD, kputG, kcpy, kcat, kRR, kNN, true_and, and_true, if_true, if_false, if_pos, Nat.reduceAdd, Nat.reduceEqDiff, Nat.reduceLeDiff, Nat.reduceLT, reduceIte, Prod.mk.injEq, eq_self, false_and, and_false, reduceCtorEq, Nat.reduceSub, List.reverse_cons, List.reverse_nil, List.nil_append, List.cons_append, Option.toList_some, Option.toList_none, not_true_eq_false, not_false_eq_true, h7, q2]
    refine ⟨fun h2 => ?_, fun h2 => ?_⟩
    · have hlt : tC σ < 20 := by
        have : tC σ ≠ 20 := fun z => h2 (by rw [z]; rfl)
        omega
      obtain ⟨f1, f4⟩ := hf hlt
      generalize hD0 : kput D (7, 4, 0) 0 0 = D0 at *
      have e1 : ∀ v, kput D0 (8, 4, 0) (tC σ) v (7, 4, 0) 2 = nI (tC σ) := fun v => by simp [kput, q2]
      have e2 : ∀ v u, kput (kput D0 (8, 4, 0) (tC σ) v) (8, 2, 10) (tC σ) u (6, 2, 0) 8 = nI (tS σ).length := fun v u => by simp [kput, q8]
      have e3 : ∀ v u, kput (kput D0 (8, 4, 0) (tC σ) v) (8, 2, 10) (tC σ) u (7, 4, 0) 2 = nI (tC σ) := fun v u => by simp [kput, q2]
      have e4 : ∀ v u x, kput (kput (kput D0 (8, 4, 0) (tC σ) v) (8, 2, 10) (tC σ) u) (8, 2, 9) (tS σ).length x (6, 2, 0) 8 = nI (tS σ).length := fun v u x => by simp [kput, q8]
      have e5 : ∀ v u x y, kput (kput (kput (kput D0 (8, 4, 0) (tC σ) v) (8, 2, 10) (tC σ) u) (8, 2, 9) (tS σ).length x) (6, 2, 0) 8 y (7, 4, 0) 2 = nI (tC σ) := fun v u x y => by simp [kput, q2]
      have e6 : ∀ v u x y z, kput (kput (kput (kput (kput D0 (8, 4, 0) (tC σ) v) (8, 2, 10) (tC σ) u) (8, 2, 9) (tS σ).length x) (6, 2, 0) 8 y) (7, 4, 0) 2 z (7, 4, 0) 2 = z := fun v u x y z => by simp [kput]
      refine kwX7_addChair_36 hC hE ?_
      simp only [kbX7_addChair_36, mX7_addChair, kblk, kstp, kent, kpad, kget, kst1, kst2, kc2, cond_false, cond_true, kfv, kfit, kOkf, kputv, kputD, kputG, kcpy, kcat, kRR, kNN, true_and, and_true, if_true, if_false, if_pos, Nat.reduceAdd, Nat.reduceEqDiff, Nat.reduceLeDiff, Nat.reduceLT, reduceIte, Prod.mk.injEq, eq_self, false_and, and_false, reduceCtorEq, Nat.reduceSub, List.reverse_cons, List.reverse_nil, List.nil_append, List.cons_append, Option.toList_some, Option.toList_none, not_true_eq_false, not_false_eq_true, h7, hx, l40, n40, l9, l10, n9, n10, hcc, hcs, q2, e1, e2, e3, e4, e5, e6, nI_1, hb]
      refine ⟨vp_in_nI hlt (by omega), vp_in_nI hlt (by omega), vp_in_nI (show (tS σ).length < 20 by omega) (by omega), ⟨Or.inl ⟨hc, hlt, rfl, mPub.of ?_ ?_ ⟨?_, ?_⟩ (fun i hi => ?_)⟩, trivial, Nat.le_refl _, Nat.le_refl _⟩⟩
      · rw [← hD0]; simp [kput]
      · obtain ⟨⟨a, b, c⟩, d, e, f⟩ := ht0
        refine ⟨⟨?_, ?_, ?_⟩, fun x hx => ?_, fun x hx => ?_, fun x hx => ?_⟩
        · show _ = zup (tZ σ) 0 (tC σ) n 38 0
          rw [zup_ne (by decide)]; simp [kput, a]
        · simp [kput]; rfl
        · simp [kput, c]; rfl
        · show _ = zup (tZ σ) 0 (tC σ) n 0 x
          by_cases hxc : x = tC σ
          · rw [hxc, zup_eq]; simp [kput]
          · have hx' : x < tC σ := by
              have : x < tC σ + 1 := hx
              omega
            rw [zup_ne2 hxc]
            have := d x hx'
            simp [kput, hxc, this]
        · show _ = zup (tZ σ) 0 (tC σ) n 21 x
          rw [zup_ne (by decide)]
          have := e x hx
          simp [kput, this]
        · show _ = zup (tZ σ) 0 (tC σ) n 50 x
          rw [zup_ne (by decide)]
          have := f x hx
          simp [kput, this]
      · have e : ∀ f j, f ≠ 0 → tZ (mkChair σ n) f j = tZ σ f j := fun f j hf => zup_ne hf
        obtain ⟨a0, a1, a2, a3, a4, a5, a6, a7, a8⟩ := hm0.1
        have s : ∀ v u x y j, j ≠ 8 → kput (kput (kput (kput (kput D0 (8, 4, 0) (tC σ) v) (8, 2, 10) (tC σ) u) (8, 2, 9) (tS σ).length x) (6, 2, 0) 8 (nI ((tS σ).length + 1))) (7, 4, 0) 2 y (6, 2, 0) j = D0 (6, 2, 0) j := fun v u x y j hj => by simp [kput, hj]
        refine ⟨?_, ?_, ?_, ?_, ?_, ?_, ?_, ?_, ?_⟩
        · rw [s _ _ _ _ 0 (by decide), a0, e _ _ (by decide)]
        · rw [s _ _ _ _ 1 (by decide), a1, e _ _ (by decide)]
        · rw [s _ _ _ _ 2 (by decide), a2, e _ _ (by decide)]
        · rw [s _ _ _ _ 3 (by decide), a3]; rfl
        · rw [s _ _ _ _ 4 (by decide), a4, e _ _ (by decide)]
        · rw [s _ _ _ _ 5 (by decide), a5]
          exact (isum_congr _ (fun g _ => by rw [e _ _ (by decide), e _ _ (by decide)])).symm
        · rw [s _ _ _ _ 6 (by decide), a6]
          show _ = isum _ (tC σ + 1)
          simp only [isum]
          rw [e _ _ (by decide), f4, Int32.add_zero]
          exact (isum_congr _ (fun g _ => by rw [e _ _ (by decide)])).symm
        · rw [s _ _ _ _ 7 (by decide), a7, e _ _ (by decide)]
        · show _ = nI (tS σ ++ [tC σ]).length
          rw [List.length_append]
          simp [kput]
      · have e : ∀ f j, f ≠ 0 → tZ (mkChair σ n) f j = tZ σ f j := fun f j hf => zup_ne hf
        obtain ⟨h9, h10, h11, h12, h13, h14, hg⟩ := hm0.2
        refine ⟨fun i x hi => ?_, fun c hc => ?_, fun c hc => ?_, fun l hl => ?_, fun l hl => ?_, fun l hl i x hi => ?_, fun g hgg => ?_⟩
        · have hi' : (tS σ ++ [tC σ])[i]? = some x := hi
          by_cases hil : i = (tS σ).length
          · subst hil
            have : x = tC σ := by simpa using hi'.symm
            simp [kput, this]
          · have hi2 : i < (tS σ).length := by
              have := (List.getElem?_eq_some_iff.mp hi').1
              simp at this
              omega
            rw [List.getElem?_append_left hi2] at hi'
            have := h9 i x hi'
            simp [kput, hil, this]
        · rw [e _ _ (by decide)]
          by_cases hxc : c = tC σ
          · rw [hxc, f1]; simp [kput]
          · have hc' : c < tC σ := by
              have : c < tC σ + 1 := hc
              omega
            have := h10 c hc'
            simp [kput, hxc, this]
        · rw [e _ _ (by decide)]; have := h11 c hc; simp [kput, this]
        · rw [e _ _ (by decide)]; have := h12 l hl; simp [kput, this]
        · have := h13 l hl; simp [kput, this]; rfl
        · have := h14 l hl i x hi; simp [kput, this]
        · have := hg g hgg
          have k8 : ∀ v u x y z k j, k ≠ 10 → k ≠ 9 → kput (kput (kput (kput (kput D0 (8, 4, 0) (tC σ) v) (8, 2, 10) (tC σ) u) (8, 2, 9) (tS σ).length x) (6, 2, 0) 8 y) (7, 4, 0) 2 z (8, 2, k) j = D0 (8, 2, k) j := fun v u x y z k j h1 h2 => by simp [kput, h1, h2]
          simp only [mGr] at this ⊢
          rw [k8 _ _ _ _ _ 15 _ (by decide) (by decide), k8 _ _ _ _ _ 16 _ (by decide) (by decide), k8 _ _ _ _ _ 17 _ (by decide) (by decide), k8 _ _ _ _ _ 18 _ (by decide) (by decide), k8 _ _ _ _ _ 19 _ (by decide) (by decide), k8 _ _ _ _ _ 20 _ (by decide) (by decide), k8 _ _ _ _ _ 21 _ (by decide) (by decide), e 10 _ (by decide), e 11 _ (by decide), e 12 _ (by decide), e 13 _ (by decide), e 14 _ (by decide), e 15 _ (by decide), e 16 _ (by decide), e 17 _ (by decide)]
          exact this
      · rw [off_4 i hi, kOff.put (L := 2) i (by omega), kOff.put (L := 2) i (by omega), kOff.put (L := 2) i (by omega), off_4 i hi, ← hD0, off_7 i hi]
    · have hlt : ¬ tC σ < 20 := fun z => by
        have := (nI_eq (b := 20) (by omega) (by decide)).mp h2
        omega
      refine kwX7_addChair_30 hC hE ?_
      simp only [kbX7_addChair_30, mX7_addChair, kblk, kstp, kent, kpad, kget, kst1, kst2, kc2, cond_false, cond_true, kfv, kfit, kOkf, kputv, kputD, kputG, kcpy, kcat, kRR, kNN, true_and, and_true, if_true, if_false, if_pos, Nat.reduceAdd, Nat.reduceEqDiff, Nat.reduceLeDiff, Nat.reduceLT, reduceIte, Prod.mk.injEq, eq_self, false_and, and_false, reduceCtorEq, Nat.reduceSub, List.reverse_cons, List.reverse_nil, List.nil_append, List.cons_append, Option.toList_some, Option.toList_none, not_true_eq_false, not_false_eq_true]
      refine KW_callV hC (by decide +kernel) kl7_48 (by decide) ((m7_no 2)) rfl rfl (Nat.le_of_ble_eq_true rfl) rfl h7 (by simp [kOkL, kOk, h7]) (by simp [kOkS]) (Nat.le_of_ble_eq_true rfl) (Nat.le_of_ble_eq_true rfl) (Nat.le_of_ble_eq_true rfl) ?_
      rintro v M' ⟨rfl, rfl⟩
      refine kwX7_addChair_35 hC hE ?_
      simp only [kbX7_addChair_35, mX7_addChair, kblk, kstp, kent, kpad, kget, kst1, kst2, kc2, cond_false, cond_true, kfv, kfit, kOkf, kputv, kputD, kputG, kcpy, kcat, kRR, kNN, true_and, and_true, if_true, if_false, if_pos, Nat.reduceAdd, Nat.reduceEqDiff, Nat.reduceLeDiff, Nat.reduceLT, reduceIte, Prod.mk.injEq, eq_self, false_and, and_false, reduceCtorEq, Nat.reduceSub, List.reverse_cons, List.reverse_nil, List.nil_append, List.cons_append, Option.toList_some, Option.toList_none, not_true_eq_false, not_false_eq_true]
      exact ⟨Or.inr (Or.inr ⟨hc, hlt, rfl, mPub_no ht hm 2⟩), trivial, Nat.le_refl _, Nat.le_refl _⟩
  · have hc : ¬ (1 ≤ n ∧ n ≤ 6) := fun z => by rw [if_pos z] at h; exact absurd h (by decide)
    refine kwX7_addChair_15 hC hE ?_
    simp only [kbX7_addChair_15, mX7_addChair, kblk, kstp, kent, kpad, kget, kst1, kst2, kc2, cond_false, cond_true, kfv, kfit, kOkf, kputv, kputD, kputG, kcpy, kcat, kRR, kNN, true_and, and_true, if_true, if_false, if_pos, Nat.reduceAdd, Nat.reduceEqDiff, Nat.reduceLeDiff, Nat.reduceLT, reduceIte, Prod.mk.injEq, eq_self, false_and, and_false, reduceCtorEq, Nat.reduceSub, List.reverse_cons, List.reverse_nil, List.nil_append, List.cons_append, Option.toList_some, Option.toList_none, not_true_eq_false, not_false_eq_true]
    refine KW_callV hC (by decide +kernel) kl7_48 (by decide) ((m7_no 1)) rfl rfl (Nat.le_of_ble_eq_true rfl) rfl h7 (by simp [kOkL, kOk, h7]) (by simp [kOkS]) (Nat.le_of_ble_eq_true rfl) (Nat.le_of_ble_eq_true rfl) (Nat.le_of_ble_eq_true rfl) ?_
    rintro v M' ⟨rfl, rfl⟩
    refine kwX7_addChair_20 hC hE ?_
    simp only [kbX7_addChair_20, mX7_addChair, kblk, kstp, kent, kpad, kget, kst1, kst2, kc2, cond_false, cond_true, kfv, kfit, kOkf, kputv, kputD, kputG, kcpy, kcat, kRR, kNN, true_and, and_true, if_true, if_false, if_pos, Nat.reduceAdd, Nat.reduceEqDiff, Nat.reduceLeDiff, Nat.reduceLT, reduceIte, Prod.mk.injEq, eq_self, false_and, and_false, reduceCtorEq, Nat.reduceSub, List.reverse_cons, List.reverse_nil, List.nil_append, List.cons_append, Option.toList_some, Option.toList_none, not_true_eq_false, not_false_eq_true]
    exact ⟨Or.inr (Or.inl ⟨hc, rfl, mPub_no ht hm 1⟩), trivial, Nat.le_refl _, Nat.le_refl _⟩
end M7B

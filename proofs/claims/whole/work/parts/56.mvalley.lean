/-! The reference: the valley. -/
theorem cl1 : (1 : Int32).toNatClampNeg = 1 := by decide
theorem nl1 : ¬ (1 : Int32) < 0 := by decide
section MVALLEY
variable {D : KI → Nat → Int32} {G : KI → Nat → Int64} {P : Nat} {σ : KT}
theorem mArr_shed {D' : KI → Nat → Int32} {xs : List Nat} (h : mArr P D σ) (h9 : ∀ i x, xs[i]? = some x → D' (8, P, 9) i = nI x) (o : ∀ k, k ≠ 9 → D' (8, P, k) = D (8, P, k)) : mArr P D' (tsetS σ xs) := by
  obtain ⟨a9, a10, a11, a12, a13, a14, hg⟩ := h
  refine ⟨h9, fun c hc => by rw [o 10 (by decide)]; exact a10 c hc, fun c hc => by rw [o 11 (by decide)]; exact a11 c hc, fun c hc => by rw [o 12 (by decide)]; exact a12 c hc, fun c hc => by rw [o 13 (by decide)]; exact a13 c hc, fun l hl j x hx => by rw [o 14 (by decide)]; exact a14 l hl j x hx, fun g hgg => ?_⟩
  have := hg g hgg
  simp only [mGr, tZ_tsetS] at this ⊢
  rw [o 15 (by decide), o 16 (by decide), o 17 (by decide), o 18 (by decide), o 19 (by decide), o 20 (by decide), o 21 (by decide)]
  exact this
theorem m_valley (hP : P = 2 ∨ P = 3) (ht : mTop D σ) (hm : mSt P D σ) {b h : Nat} (hw : kWf0 b h 1 h σ) : SpQ mX6_valley 0 0 [kR (some (6, P, 0))] (km D G) (fun v M' => v = none ∧ mTo P D G (tLoad (tExch σ)) M') := by
  refine SpQ_of (own := 6) (ini := false) (by decide +kernel) rfl (by decide) (Nat.le_of_ble_eq_true rfl) ?_
  intro X hC hE hL0
  have hb := hw.1.1
  obtain ⟨bC, bL, bG, bS, -⟩ := hw.1.1
  have hx := mLive hP
  have h7 := mLive7
  have l9 := mLive8 (k := 9) hP (by decide) (by decide)
  have l10 := mLive8 (k := 10) hP (by decide) (by decide)
  have n9 := kN8_P (k := 9) hP
  have n10 := kN8_P (k := 10) hP
  simp only [Nat.reduceLT, Nat.reduceEqDiff, if_false, if_true] at n9 n10
  have q1 : D (6, P, 0) 1 = tZ σ 39 0 := hm.1.2.1
  have q8 : D (6, P, 0) 8 = nI (tS σ).length := hm.1.2.2.2.2.2.2.2.2
  have hlen := hw.1.slen
  have hexw := hw.exch
  have fin1 : ∀ (D' : KI → Nat → Int32), mSt P D' (tExch σ) → kOff P D' D → tChairAt (tExch σ) 0 = -1 → KW X 118 [some (kR (some (6, P, 0))), some (kI (-1))] [] (km D' G) 0 0 := by
    intro D' h1 h2 h3
    refine kwX6_valley_118 hC hE ?_
    simp only [kbX6_valley_118, mX6_valley, kblk, kstp, kent, kpad, kget, kst1, kst2, kc2, cond_false, cond_true, kfv, kfit, kOkf, kputv, kputD, kputG, kcpy, kcat, kRR, kNN, true_and, and_true, if_true, if_false, if_pos, Nat.reduceAdd, Nat.reduceEqDiff, Nat.reduceLeDiff, Nat.reduceLT, reduceIte, Prod.mk.injEq, eq_self, false_and, and_false, reduceCtorEq, Nat.reduceSub, List.reverse_cons, List.reverse_nil, List.nil_append, List.cons_append, Option.toList_some, Option.toList_none, not_true_eq_false, not_false_eq_true]
    refine ⟨fun _ => ?_, fun w => w.elim⟩
    refine kwX6_valley_128 hC hE ?_
    simp only [kbX6_valley_128, mX6_valley, kblk, kstp, kent, kpad, kget, kst1, kst2, kc2, cond_false, cond_true, kfv, kfit, kOkf, kputv, kputD, kputG, kcpy, kcat, kRR, kNN, true_and, and_true, if_true, if_false, if_pos, Nat.reduceAdd, Nat.reduceEqDiff, Nat.reduceLeDiff, Nat.reduceLT, reduceIte, Prod.mk.injEq, eq_self, false_and, and_false, reduceCtorEq, Nat.reduceSub, List.reverse_cons, List.reverse_nil, List.nil_append, List.cons_append, Option.toList_some, Option.toList_none, not_true_eq_false, not_false_eq_true]
    refine ⟨⟨rfl, D', rfl, ?_, h2⟩, trivial, Nat.le_refl _, Nat.le_refl _⟩
    unfold tLoad
    rw [if_pos h3]
    exact h1
  have fin2 : ∀ (D' : KI → Nat → Int32) (c : Nat), mSt P D' (tExch σ) → kOff P D' D → c < tC σ → tZ (tExch σ) 1 c = 0 → KW X 118 [some (kR (some (6, P, 0))), some (kI (nI c))] [] (km D' G) 0 0 := by
    intro D' c h1 h2 h3 h4
    have hC' : tC (tExch σ) = tC σ := same_exch.1
    have hld : tLoad (tExch σ) = tLoadAt (tExch σ) c := by
      unfold tLoad
      rcases chairAt_spec hexw.1.1 (p := 0) with ⟨n1, n2⟩ | ⟨c2, hc2, s1, s2, s3, s4⟩
      · exact absurd h4 (n2 c (by omega))
      · rw [if_neg s2, s3]
        by_cases hcc : c2 = c
        · rw [hcc]
        · exact absurd (s4.trans h4.symm) ((hexw.2.2.2.1 c (by omega)).2.2.2.2.2 c2 hc2 hcc (by rw [h4]; decide))
    refine kwX6_valley_118 hC hE ?_
    simp only [kbX6_valley_118, mX6_valley, kblk, kstp, kent, kpad, kget, kst1, kst2, kc2, cond_false, cond_true, kfv, kfit, kOkf, kputv, kputD, kputG, kcpy, kcat, kRR, kNN, true_and, and_true, if_true, if_false, if_pos, Nat.reduceAdd, Nat.reduceEqDiff, Nat.reduceLeDiff, Nat.reduceLT, reduceIte, Prod.mk.injEq, eq_self, false_and, and_false, reduceCtorEq, Nat.reduceSub, List.reverse_cons, List.reverse_nil, List.nil_append, List.cons_append, Option.toList_some, Option.toList_none, not_true_eq_false, not_false_eq_true]
    refine ⟨fun w => absurd w (nI_m1 (by omega)), fun _ => ?_⟩
    refine kwX6_valley_123 hC hE ?_
    simp only [kbX6_valley_123, mX6_valley, kblk, kstp, kent, kpad, kget, kst1, kst2, kc2, cond_false, cond_true, kfv, kfit, kOkf, kputv, kputD, kputG, kcpy, kcat, kRR, kNN, true_and, and_true, if_true, if_false, if_pos, Nat.reduceAdd, Nat.reduceEqDiff, Nat.reduceLeDiff, Nat.reduceLT, reduceIte, Prod.mk.injEq, eq_self, false_and, and_false, reduceCtorEq, Nat.reduceSub, List.reverse_cons, List.reverse_nil, List.nil_append, List.cons_append, Option.toList_some, Option.toList_none, not_true_eq_false, not_false_eq_true]
    refine KW_callV hC (by decide +kernel) kl6_129 (by decide) ((m_load hP (ht.off hP h2 same_exch) h1 hexw (c := c) (by omega) h4)) rfl rfl (Nat.le_of_ble_eq_true rfl) rfl hx (by simp [kOkL, kOk, hx]) (by simp [kOkS]) (Nat.le_of_ble_eq_true rfl) (Nat.le_of_ble_eq_true rfl) (Nat.le_of_ble_eq_true rfl) ?_
    rintro v M' ⟨rfl, D2, rfl, h5, h6⟩
    refine kwX6_valley_128 hC hE ?_
    simp only [kbX6_valley_128, mX6_valley, kblk, kstp, kent, kpad, kget, kst1, kst2, kc2, cond_false, cond_true, kfv, kfit, kOkf, kputv, kputD, kputG, kcpy, kcat, kRR, kNN, true_and, and_true, if_true, if_false, if_pos, Nat.reduceAdd, Nat.reduceEqDiff, Nat.reduceLeDiff, Nat.reduceLT, reduceIte, Prod.mk.injEq, eq_self, false_and, and_false, reduceCtorEq, Nat.reduceSub, List.reverse_cons, List.reverse_nil, List.nil_append, List.cons_append, Option.toList_some, Option.toList_none, not_true_eq_false, not_false_eq_true]
    refine ⟨⟨rfl, D2, rfl, ?_, h6.trans h2⟩, trivial, Nat.le_refl _, Nat.le_refl _⟩
    rw [hld]; exact h5
  refine kwX6_valley_0 hC hE ?_
  simp only [kbX6_valley_0, mX6_valley, kblk, kstp, kent, kpad, kget, kst1, kst2, kc2, cond_false, cond_true, kfv, kfit, kOkf, kputv, kputD, kputG, kcpy, kcat, kRR, kNN, true_and, and_true, if_true, if_false, if_pos, Nat.reduceAdd, Nat.reduceEqDiff, Nat.reduceLeDiff, Nat.reduceLT, reduceIte, Prod.mk.injEq, eq_self, false_and, and_false, reduceCtorEq, Nat.reduceSub, List.reverse_cons, List.reverse_nil, List.nil_append, List.cons_append, Option.toList_some, Option.toList_none, not_true_eq_false, not_false_eq_true]
  refine KW_callV hC (by decide +kernel) kl6_119 (by decide) ((m_find hP ht hm hb 0)) rfl rfl (Nat.le_of_ble_eq_true rfl) rfl hx (by simp [kOkL, kOk, hx]) (by simp [kOkS]) (Nat.le_of_ble_eq_true rfl) (Nat.le_of_ble_eq_true rfl) (Nat.le_of_ble_eq_true rfl) ?_
  rintro v M' ⟨rfl, rfl⟩
  refine kwX6_valley_5 hC hE ?_
  simp only [kbX6_valley_5, mX6_valley, kblk, kstp, kent, kpad, kget, kst1, kst2, kc2, cond_false, cond_true, kfv, kfit, kOkf, kputv, kputD, kputG, kcpy, kcat, kRR, kNN, true_and, and_true, if_true, if_false, if_pos, Nat.reduceAdd, Nat.reduceEqDiff, Nat.reduceLeDiff, Nat.reduceLT, reduceIte, Prod.mk.injEq, eq_self, false_and, and_false, reduceCtorEq, Nat.reduceSub, List.reverse_cons, List.reverse_nil, List.nil_append, List.cons_append, Option.toList_some, Option.toList_none, not_true_eq_false, not_false_eq_true]
  have hsp := chairAt_spec hb (p := 0)
  refine ⟨fun he => ?_, fun hne => ?_⟩
  · -- no chair at the valley
    rw [he]
    have hn2 : ∀ c, c < tC σ → tZ σ 1 c ≠ 0 := by
      rcases hsp with ⟨-, n2⟩ | ⟨c, hc, s1, s2, s3, s4⟩
      · exact n2
      · exact absurd he s2
    have stay : ¬ (tOnRope σ < tZ σ 39 0 ∧ tS σ ≠ []) → KW X 118 [some (kR (some (6, P, 0))), some (kI (-1))] [] (km D G) 0 0 := by
      intro hn
      have hex : tExch σ = σ := by
        unfold tExch
        rw [if_neg (fun z => z.2 he)]
        by_cases hlt : tOnRope σ < tZ σ 39 0
        · rw [if_pos ⟨hlt, he⟩]
          cases e : tS σ with
          | nil => rfl
          | cons a r => exact absurd ⟨hlt, by rw [e]; simp⟩ hn
        · rw [if_neg (fun z => hlt z.1)]
      exact fin1 D (by rw [hex]; exact hm) kOff.refl (by rw [hex]; exact he)
    refine kwX6_valley_54 hC hE ?_
    simp only [kbX6_valley_54, mX6_valley, kblk, kstp, kent, kpad, kget, kst1, kst2, kc2, cond_false, cond_true, kfv, kfit, kOkf, kputv, kputD, kputG, kcpy, kcat, kRR, kNN, true_and, and_true, if_true, if_false, if_pos, Nat.reduceAdd, Nat.reduceEqDiff, Nat.reduceLeDiff, Nat.reduceLT, reduceIte, Prod.mk.injEq, eq_self, false_and, and_false, reduceCtorEq, Nat.reduceSub, List.reverse_cons, List.reverse_nil, List.nil_append, List.cons_append, Option.toList_some, Option.toList_none, not_true_eq_false, not_false_eq_true]
    refine ⟨fun w => w.elim, fun _ => ?_⟩
    refine kwX6_valley_59 hC hE ?_
    simp only [kbX6_valley_59, mX6_valley, kblk, kstp, kent, kpad, kget, kst1, kst2, kc2, cond_false, cond_true, kfv, kfit, kOkf, kputv, kputD, kputG, kcpy, kcat, kRR, kNN, true_and, and_true, if_true, if_false, if_pos, Nat.reduceAdd, Nat.reduceEqDiff, Nat.reduceLeDiff, Nat.reduceLT, reduceIte, Prod.mk.injEq, eq_self, false_and, and_false, reduceCtorEq, Nat.reduceSub, List.reverse_cons, List.reverse_nil, List.nil_append, List.cons_append, Option.toList_some, Option.toList_none, not_true_eq_false, not_false_eq_true]
    refine KW_callV hC (by decide +kernel) kl6_125 (by decide) ((m_onRope hP ht hm)) rfl rfl (Nat.le_of_ble_eq_true rfl) rfl hx (by simp [kOkL, kOk, hx]) (by simp [kOkS]) (Nat.le_of_ble_eq_true rfl) (Nat.le_of_ble_eq_true rfl) (Nat.le_of_ble_eq_true rfl) ?_
    rintro v M' ⟨rfl, rfl⟩
    refine kwX6_valley_63 hC hE ?_
    simp only [kbX6_valley_63, mX6_valley, kblk, kstp, kent, kpad, kget, kst1, kst2, kc2, cond_false, cond_true, kfv, kfit, kOkf, kputv, kputD, kputG, kcpy, kcat, kRR, kNN, true_and, and_true, if_true, if_false, if_pos, Nat.reduceAdd, Nat.reduceEqDiff, Nat.reduceLeDiff, Nat.reduceLT, reduceIte, Prod.mk.injEq, eq_self, false_and, and_false, reduceCtorEq, Nat.reduceSub, List.reverse_cons, List.reverse_nil, List.nil_append, List.cons_append, Option.toList_some, Option.toList_none, not_true_eq_false, not_false_eq_true, hx, q1]
    refine ⟨fun w => stay (fun z => absurd z.1 (Int32.not_lt.mpr w)), fun w => ?_⟩
    have hlt : tOnRope σ < tZ σ 39 0 := Int32.not_le.mp w
    refine kwX6_valley_70 hC hE ?_
    simp only [kbX6_valley_70, mX6_valley, kblk, kstp, kent, kpad, kget, kst1, kst2, kc2, cond_false, cond_true, kfv, kfit, kOkf, kputv, kputD, kputG, kcpy, kcat, kRR, kNN, true_and, and_true, if_true, if_false, if_pos, Nat.reduceAdd, Nat.reduceEqDiff, Nat.reduceLeDiff, Nat.reduceLT, reduceIte, Prod.mk.injEq, eq_self, false_and, and_false, reduceCtorEq, Nat.reduceSub, List.reverse_cons, List.reverse_nil, List.nil_append, List.cons_append, Option.toList_some, Option.toList_none, not_true_eq_false, not_false_eq_true, hx, q8]
    refine ⟨fun w2 => stay (fun z => ?_), fun w2 => ?_⟩
    · have : 0 < (tS σ).length := List.length_pos_iff.mpr z.2
      exact absurd w2 (nI_nle this (by omega))
    · cases e : tS σ with
      | nil => rw [e] at w2; exact absurd (by decide) w2
      | cons c r =>
        have hc : c < tC σ := bS c (by rw [e]; simp)
        have hcc := nI_clamp (show c < 2 ^ 31 by omega)
        have hl1 : 1 ≤ (tS σ).length := by rw [e]; simp
        have q9 : D (8, P, 9) 0 = nI c := hm.2.1 0 c (by rw [e]; rfl)
        have hs1 : nI (tS σ).length - 1 = nI ((tS σ).length - 1) := nI_subn (b := 1) hl1
        have e1 : kput D (6, P, 0) 8 (nI ((tS σ).length - 1)) (6, P, 0) 8 = nI ((tS σ).length - 1) := by simp [kput]
        have c3 := nI_clamp (show (tS σ).length - 1 < 2 ^ 31 by omega)
        refine kwX6_valley_77 hC hE ?_
        simp only [kbX6_valley_77, mX6_valley, kblk, kstp, kent, kpad, kget, kst1, kst2, kc2, cond_false, cond_true, kfv, kfit, kOkf, kputv, kputD, kputG, kcpy, kcat, kRR, kNN, true_and, and_true, if_true, if_false, if_pos, Nat.reduceAdd, Nat.reduceEqDiff, Nat.reduceLeDiff, Nat.reduceLT, reduceIte, Prod.mk.injEq, eq_self, false_and, and_false, reduceCtorEq, Nat.reduceSub, List.reverse_cons, List.reverse_nil, List.nil_append, List.cons_append, Option.toList_some, Option.toList_none, not_true_eq_false, not_false_eq_true, hx, l9, l10, n9, n10, hcc, q8, q9, hs1, e1, c3, kroom, cl0, nl0, cl1, nl1]
        refine ⟨vp_in_nI (show 0 < 20 by decide) (by decide), nI_pos (by omega), by omega, by omega, by decide, vp_in_nI (show c < 20 by omega) (by omega), ?_⟩
        have hex : tExch σ = tset (tsetS σ ((tS σ).filter (fun a => decide (a ≠ c)))) 1 c 0 := by
          unfold tExch
          rw [if_neg (fun z => z.2 he), if_pos ⟨hlt, he⟩, e]
        have hnd := hw.1.2.2.2.2.1
        have hpos : (tS σ)[0]? = some c := by rw [e]; rfl
        obtain ⟨f1, f2⟩ := filt_get (tS σ) 0 hnd hpos
        refine fin2 _ c ?_ (fun i hi => ?_) hc (by rw [hex, tZ_tset, zup_eq])
        · rw [hex]
          refine ⟨?_, ?_⟩
          · have hA : mSc P (kput D (6, P, 0) 8 (nI ((tS σ).length - 1))) (tset (tsetS σ ((tS σ).filter (fun a => decide (a ≠ c)))) 1 c 0) := by
              refine mSc_put hm.1 8 _ ?_ ?_ ?_ ?_ ?_ ?_ ?_ ?_ ?_
              · rw [if_neg (by decide)]; exact tZ_ne (σ := tsetS σ _) (f := 1) (i := c) (v := 0) (a := 41) (b := 0) (by decide)
              · rw [if_neg (by decide)]; exact tZ_ne (σ := tsetS σ _) (f := 1) (i := c) (v := 0) (a := 39) (b := 0) (by decide)
              · rw [if_neg (by decide)]; exact tZ_ne (σ := tsetS σ _) (f := 1) (i := c) (v := 0) (a := 40) (b := 0) (by decide)
              · rw [if_neg (by decide)]; rfl
              · rw [if_neg (by decide)]; exact tZ_ne (σ := tsetS σ _) (f := 1) (i := c) (v := 0) (a := 42) (b := 0) (by decide)
              · rw [if_neg (by decide)]; exact tCold_tset (σ := tsetS σ _) (f := 1) (i := c) (v := 0) (by decide) (by decide)
              · rw [if_neg (by decide)]; exact tTaken_tset (σ := tsetS σ _) (f := 1) (i := c) (v := 0) (by decide)
              · rw [if_neg (by decide)]; exact tZ_ne (σ := tsetS σ _) (f := 1) (i := c) (v := 0) (a := 43) (b := 0) (by decide)
              · rw [if_pos rfl, tS_tset, tS_tsetS]; congr 1; omega
            have es : ∀ f v j, kput (kset (kput D (6, P, 0) 8 (nI ((tS σ).length - 1))) (8, P, 9) f) (8, P, 10) c v (6, P, 0) j = kput D (6, P, 0) 8 (nI ((tS σ).length - 1)) (6, P, 0) j := fun f v j => by simp [kput, kset]
            simp only [mSc, es]
            exact hA
          · refine mArr_put (mArr_shed (mArr_sc hm.2 8 (nI ((tS σ).length - 1))) (fun i x hi => ?_) (fun k hk => ?_)) 10 c 0 (by decide)
            · rw [f2 i, if_neg (by omega)] at hi
              have hil := (List.getElem?_eq_some_iff.mp hi).1
              have := hm.2.1 (i + 1) x hi
              simp only [kset, if_true, va_cpy]
              rw [if_pos (by omega)]
              have hidx : 1 + (i - 0) = i + 1 := by omega
              rw [hidx]
              simp [kput, this]
            · simp [kset, hk]
        · funext j
          have h1 : i ≠ (8, P, 9) := fun z => hi (by rw [z])
          have h2 : i ≠ (8, P, 10) := fun z => hi (by rw [z])
          have h3 : i ≠ (6, P, 0) := fun z => hi (by rw [z])
          simp [kset, kput, h1, h2, h3]
  · -- chair c stands at the valley
    rcases hsp with ⟨n1, -⟩ | ⟨c, hc, s1, s2, s3, s4⟩
    · exact absurd n1 hne
    rw [s1]
    have hcc := nI_clamp (show c < 2 ^ 31 by omega)
    refine kwX6_valley_11 hC hE ?_
    simp only [kbX6_valley_11, mX6_valley, kblk, kstp, kent, kpad, kget, kst1, kst2, kc2, cond_false, cond_true, kfv, kfit, kOkf, kputv, kputD, kputG, kcpy, kcat, kRR, kNN, true_and, and_true, if_true, if_false, if_pos, Nat.reduceAdd, Nat.reduceEqDiff, Nat.reduceLeDiff, Nat.reduceLT, reduceIte, Prod.mk.injEq, eq_self, false_and, and_false, reduceCtorEq, Nat.reduceSub, List.reverse_cons, List.reverse_nil, List.nil_append, List.cons_append, Option.toList_some, Option.toList_none, not_true_eq_false, not_false_eq_true]
    refine KW_callV hC (by decide +kernel) kl6_125 (by decide) ((m_onRope hP ht hm)) rfl rfl (Nat.le_of_ble_eq_true rfl) rfl hx (by simp [kOkL, kOk, hx]) (by simp [kOkS]) (Nat.le_of_ble_eq_true rfl) (Nat.le_of_ble_eq_true rfl) (Nat.le_of_ble_eq_true rfl) ?_
    rintro v M' ⟨rfl, rfl⟩
    refine kwX6_valley_15 hC hE ?_
    simp only [kbX6_valley_15, mX6_valley, kblk, kstp, kent, kpad, kget, kst1, kst2, kc2, cond_false, cond_true, kfv, kfit, kOkf, kputv, kputD, kputG, kcpy, kcat, kRR, kNN, true_and, and_true, if_true, if_false, if_pos, Nat.reduceAdd, Nat.reduceEqDiff, Nat.reduceLeDiff, Nat.reduceLT, reduceIte, Prod.mk.injEq, eq_self, false_and, and_false, reduceCtorEq, Nat.reduceSub, List.reverse_cons, List.reverse_nil, List.nil_append, List.cons_append, Option.toList_some, Option.toList_none, not_true_eq_false, not_false_eq_true, hx, q1]
    refine ⟨fun w => ?_, fun w => ?_⟩
    · have hex : tExch σ = σ := by
        unfold tExch
        rw [if_neg (fun z => absurd z.1 (Int32.not_lt.mpr w)), if_neg (fun z => s2 z.2)]
      refine kwX6_valley_54 hC hE ?_
      simp only [kbX6_valley_54, mX6_valley, kblk, kstp, kent, kpad, kget, kst1, kst2, kc2, cond_false, cond_true, kfv, kfit, kOkf, kputv, kputD, kputG, kcpy, kcat, kRR, kNN, true_and, and_true, if_true, if_false, if_pos, Nat.reduceAdd, Nat.reduceEqDiff, Nat.reduceLeDiff, Nat.reduceLT, reduceIte, Prod.mk.injEq, eq_self, false_and, and_false, reduceCtorEq, Nat.reduceSub, List.reverse_cons, List.reverse_nil, List.nil_append, List.cons_append, Option.toList_some, Option.toList_none, not_true_eq_false, not_false_eq_true]
      refine ⟨fun _ => fin2 D c (by rw [hex]; exact hm) kOff.refl hc (by rw [hex]; exact s4), fun w => absurd w (nI_m1 (by omega))⟩
    · have hslt := hw.1.slt hc (by rw [s4]; decide)
      have hex : tExch σ = tsetS (tset σ 1 c (-1)) (tS σ ++ [c]) := by
        unfold tExch
        rw [if_pos ⟨Int32.not_le.mp w, s2⟩, s3]
      have cq := nI_clamp (show (tS σ).length < 2 ^ 31 by omega)
      have e1 : ∀ v, kput D (8, P, 10) c v (6, P, 0) 8 = nI (tS σ).length := fun v => by simp [kput, q8]
      have e2 : ∀ v j w, kput (kput D (8, P, 10) c v) (8, P, 9) j w (6, P, 0) 8 = nI (tS σ).length := fun v j w => by simp [kput, q8]
      refine kwX6_valley_22 hC hE ?_
      simp only [kbX6_valley_22, mX6_valley, kblk, kstp, kent, kpad, kget, kst1, kst2, kc2, cond_false, cond_true, kfv, kfit, kOkf, kputv, kputD, kputG, kcpy, kcat, kRR, kNN, true_and, and_true, if_true, if_false, if_pos, Nat.reduceAdd, Nat.reduceEqDiff, Nat.reduceLeDiff, Nat.reduceLT, reduceIte, Prod.mk.injEq, eq_self, false_and, and_false, reduceCtorEq, Nat.reduceSub, List.reverse_cons, List.reverse_nil, List.nil_append, List.cons_append, Option.toList_some, Option.toList_none, not_true_eq_false, not_false_eq_true, hx, l9, l10, n9, n10, hcc, e1, e2, cq, nI_1]
      refine ⟨vp_in_nI (show c < 20 by omega) (by omega), vp_in_nI (show (tS σ).length < 20 by omega) (by omega), ?_⟩
      refine fin1 _ ?_ (kOff.put.trans (kOff.put.trans kOff.put)) ?_
      · rw [hex]
        refine ⟨mSc_put (mSc_arr (mSc_arr hm.1 10 c (-1)) 9 _ (nI c)) 8 _ ?_ ?_ ?_ ?_ ?_ ?_ ?_ ?_ ?_, ?_⟩
        · rw [if_neg (by decide)]; exact tZ_ne (σ := σ) (f := 1) (i := c) (v := -1) (a := 41) (b := 0) (by decide)
        · rw [if_neg (by decide)]; exact tZ_ne (σ := σ) (f := 1) (i := c) (v := -1) (a := 39) (b := 0) (by decide)
        · rw [if_neg (by decide)]; exact tZ_ne (σ := σ) (f := 1) (i := c) (v := -1) (a := 40) (b := 0) (by decide)
        · rw [if_neg (by decide)]; rfl
        · rw [if_neg (by decide)]; exact tZ_ne (σ := σ) (f := 1) (i := c) (v := -1) (a := 42) (b := 0) (by decide)
        · rw [if_neg (by decide)]; exact tCold_tset (σ := σ) (f := 1) (i := c) (v := -1) (by decide) (by decide)
        · rw [if_neg (by decide)]; exact tTaken_tset (σ := σ) (f := 1) (i := c) (v := -1) (by decide)
        · rw [if_neg (by decide)]; exact tZ_ne (σ := σ) (f := 1) (i := c) (v := -1) (a := 43) (b := 0) (by decide)
        · rw [if_pos rfl, tS_tsetS, List.length_append]; rfl
        · refine mArr_sc (mArr_shed (mArr_put hm.2 10 c (-1) (by decide)) (fun i x hi => ?_) (fun k hk => ?_)) 8 _
          · by_cases hil : i = (tS σ).length
            · subst hil
              have : x = c := by simpa using hi.symm
              simp [kput, this]
            · have hi2 : i < (tS σ).length := by
                have := (List.getElem?_eq_some_iff.mp hi).1
                simp at this
                omega
              rw [List.getElem?_append_left hi2] at hi
              have := hm.2.1 i x hi
              simp [kput, hil, this]
          · funext j
            simp [kput, hk]
      · rcases chairAt_spec hexw.1.1 (p := 0) with ⟨n1, -⟩ | ⟨c2, hc2, r1, r2, r3, r4⟩
        · exact n1
        · exfalso
          have hc2' : c2 < tC σ := by rw [← (same_exch (σ := σ)).1]; exact hc2
          rw [hex] at r4
          by_cases hcc2 : c2 = c
          · subst hcc2
            rw [tZ_tsetS, tZ_tset, zup_eq] at r4
            exact absurd r4 (by decide)
          · rw [tZ_tsetS, tZ_tset, zup_ne2 hcc2] at r4
            exact absurd (r4.trans s4.symm) ((hw.2.2.2.1 c hc).2.2.2.2.2 c2 hc2' hcc2 (by rw [s4]; decide))
end MVALLEY

/-! The reference: a step. -/
theorem nI_xor (a b : Nat) : nI a ^^^ nI b = nI (a ^^^ b) := by
  apply Int32.toBitVec_inj.mp
  show BitVec.ofNat 32 a ^^^ BitVec.ofNat 32 b = BitVec.ofNat 32 (a ^^^ b)
  apply BitVec.eq_of_toNat_eq
  simp
theorem nI_and (a b : Nat) : nI a &&& nI b = nI (a &&& b) := by
  apply Int32.toBitVec_inj.mp
  show BitVec.ofNat 32 a &&& BitVec.ofNat 32 b = BitVec.ofNat 32 (a &&& b)
  apply BitVec.eq_of_toNat_eq
  simp
theorem fmod24_nat {s : Nat} (hs : s < 2 ^ 31) : fmod24 (nI s) = nI (s % 24) := by
  unfold fmod24
  have h24 : (24 : Int32) = nI 24 := rfl
  have hx : ¬ (nI s ^^^ 24 < 0) := by
    rw [h24, nI_xor]
    have : s ^^^ 24 < 2 ^ 31 := Nat.xor_lt_two_pow hs (by decide)
    exact fun z => absurd (nI_ltr (b := 0) this (by decide) z) (by omega)
  rw [if_neg (fun z => hx z.1), h24, irem_nat hs (by decide) (by decide)]
theorem odd_nat {s : Nat} (hs : s < 2 ^ 31) : (nI s &&& 1 = 1) ↔ s % 2 = 1 := by
  rw [show (1 : Int32) = nI 1 from rfl, nI_and, Nat.and_one_is_mod]
  exact nI_eq (by omega) (by decide)
theorem le7 {w : Int32} : (w ≤ 7) ↔ ¬ (8 ≤ w) := by
  rw [Int32.le_iff_toInt_le, Int32.le_iff_toInt_le, show (7 : Int32).toInt = 7 from rfl, show (8 : Int32).toInt = 8 from rfl]
  omega
theorem unl_12 {σ : KT} {t : Int32} {i : Nat} : tZ (unlTo σ t i) 12 i = tZ σ 12 i := if_neg (fun z => absurd z.2.1 (Nat.lt_irrefl _))
theorem cool_stand {σ : KT} {n : Nat} : tset (coolTo σ n) 42 0 (tZ (coolTo σ n) 42 0 + 1) = coolTo (tStand σ) n := by
  have e42 : tZ (coolTo σ n) 42 0 = tZ σ 42 0 := by
    unfold coolTo
    rw [tZ_tMod]
    exact if_neg (fun z => absurd z.1 (by decide))
  rw [e42]
  unfold coolTo tStand
  rw [tset_mod]
  show (σ.1, _, σ.2.2) = (σ.1, _, σ.2.2)
  congr 2
  funext f i
  simp only [tZ_tMod, tZ_tset, zup]
  by_cases hf : f = 42 ∧ i = 0
  · obtain ⟨rfl, rfl⟩ := hf
    simp
  · have : ¬ (12 = 42 ∧ i = 0) := by omega
    simp only [hf, if_false, this]
section MPASS
variable {D : KI → Nat → Int32} {G : KI → Nat → Int64} {P : Nat} {σ : KT}
theorem m_pass (hP : P = 2 ∨ P = 3) (ht : mTop D σ) (hm : mSt P D σ) {b h : Nat} (hw : kWf0 b h 0 h σ) (hbb : b < 2 ^ 30) : SpQ mX6_pass 0 0 [kR (some (6, P, 0))] (km D G) (fun v M' => v = some (kI (tStepUp σ)) ∧ mTo P D G (tStep σ) M') := by
  refine SpQ_of (own := 6) (ini := false) (by decide +kernel) rfl (by decide) (Nat.le_of_ble_eq_true rfl) ?_
  intro X hC hE hL0
  obtain ⟨bC, bL, bG, bS, -⟩ := hw.1.1
  obtain ⟨s, hs, hs41⟩ := hw.2.1
  obtain ⟨h2, h12, h38⟩ := hw.2.2.1
  have hx := mLive hP
  have h7 := mLive7
  have l42 := mLive4 (k := 2) (by decide)
  have n42 : kN8 4 2 = 24 := rfl
  have l10 := mLive8 (k := 10) hP (by decide) (by decide)
  have l15 := mLive8 (k := 15) hP (by decide) (by decide)
  have l16 := mLive8 (k := 16) hP (by decide) (by decide)
  have l17 := mLive8 (k := 17) hP (by decide) (by decide)
  have l18 := mLive8 (k := 18) hP (by decide) (by decide)
  have l19 := mLive8 (k := 19) hP (by decide) (by decide)
  have l20 := mLive8 (k := 20) hP (by decide) (by decide)
  have n10 := kN8_P (k := 10) hP
  have n15 := kN8_P (k := 15) hP
  have n16 := kN8_P (k := 16) hP
  have n17 := kN8_P (k := 17) hP
  have n18 := kN8_P (k := 18) hP
  have n19 := kN8_P (k := 19) hP
  have n20 := kN8_P (k := 20) hP
  simp only [Nat.reduceLT, Nat.reduceEqDiff, if_false, if_true] at n10 n15 n16 n17 n18 n19 n20
  have q0 : D (6, P, 0) 0 = nI s := hm.1.1.trans hs41
  have hlt24 : s % 24 < 24 := Nat.mod_lt _ (by decide)
  have eW : tZ σ 50 (s % 24) = tWind σ := by
    unfold tWind
    rw [hs41, fmod24_nat (by omega), nI_clamp (by omega)]
  have qw : D (8, 4, 2) (s % 24) = tWind σ := (ht.2.2.2 (s % 24) hlt24).trans eW
  have hr24 : nI s - nI s / 24 * 24 = nI (s % 24) := irem_nat (b := 24) (by omega) (by decide) (by decide)
  have hr2 : nI s - nI s / 2 * 2 = nI (s % 2) := irem_nat (b := 2) (by omega) (by decide) (by decide)
  have c24 := nI_clamp (show s % 24 < 2 ^ 31 by omega)
  have topAt : ∀ D', kOff P D' D → D' (7, 4, 0) 2 = nI (tC σ) ∧ D' (7, 4, 0) 1 = nI h := fun D' ho => by
    rw [ho _ (by rcases hP with rfl | rfl <;> decide)]; exact ⟨ht.1.2.1, ht.1.1.trans h38⟩
  have hGh : tG (tHalfStep σ) = tG σ := tG_tHalfStep
  -- the impatient, and the clock
  have fin : ∀ (D' : KI → Nat → Int32) (x1 x2 : Int32), mSt P D' (tHalfStep σ) → kOff P D' D → KW X 225 [some (kR (some (6, P, 0))), some (kI x1), some (kI x2), some (kI (tStepUp σ)), none, none] [] (km D' G) 0 0 := by
    intro D' x1 x2 hm' ho
    have loop : ∀ (m i : Nat) (D' : KI → Nat → Int32), i + m = tG σ → mSt P D' (impTo (tHalfStep σ) i) → kOff P D' D → KW X 228 [some (kR (some (6, P, 0))), some (kI x1), some (kI x2), some (kI (tStepUp σ)), some (kI (nI i)), none] [] (km D' G) 0 0 := by
      intro m
      induction m with
      | zero =>
        intro i D' him hm' ho
        have hi : i = tG σ := by omega
        subst hi
        have c7 : D' (6, P, 0) 3 = nI (tG σ) := by
          rw [hm'.1.2.2.2.1, tG_impTo, hGh]
        have c0 : D' (6, P, 0) 0 = tZ σ 41 0 := by
          rw [hm'.1.1, (same_imp _).2.2.2 _ _ (by decide), same_half.2.2.2 _ _ (by decide)]
        refine kwX6_pass_228 hC hE ?_
        simp only [kbX6_pass_228, mX6_pass, kblk, kstp, kent, kpad, kget, kst1, kst2, kc2, cond_false, cond_true, kfv, kfit, kOkf, kputv, kputD, kputG, kcpy, kcat, kRR, kNN, true_and, and_true, if_true, if_false, if_pos, Nat.reduceAdd, Nat.reduceEqDiff, Nat.reduceLeDiff, Nat.reduceLT, reduceIte, Prod.mk.injEq, eq_self, false_and, and_false, reduceCtorEq, Nat.reduceSub, List.reverse_cons, List.reverse_nil, List.nil_append, List.cons_append, Option.toList_some, Option.toList_none, not_true_eq_false, not_false_eq_true, hx, c7]
        refine ⟨fun _ => ?_, fun w => absurd (nI_le (Nat.le_refl _) (by omega)) w⟩
        refine kwX6_pass_295 hC hE ?_
        simp only [kbX6_pass_295, mX6_pass, kblk, kstp, kent, kpad, kget, kst1, kst2, kc2, cond_false, cond_true, kfv, kfit, kOkf, kputv, kputD, kputG, kcpy, kcat, kRR, kNN, true_and, and_true, if_true, if_false, if_pos, Nat.reduceAdd, Nat.reduceEqDiff, Nat.reduceLeDiff, Nat.reduceLT, reduceIte, Prod.mk.injEq, eq_self, false_and, and_false, reduceCtorEq, Nat.reduceSub, List.reverse_cons, List.reverse_nil, List.nil_append, List.cons_append, Option.toList_some, Option.toList_none, not_true_eq_false, not_false_eq_true, hx, c0]
        refine ⟨⟨rfl, _, rfl, ?_, kOff.put.trans ho⟩, trivial, Nat.le_refl _, Nat.le_refl _⟩
        unfold tStep
        refine ⟨mSc_put hm'.1 0 _ ?_ ?_ ?_ ?_ ?_ ?_ ?_ ?_ ?_, mArr_free (mArr_sc hm'.2 0 _) 41 0 _ (by decide)⟩
        · rw [if_pos rfl, tZ_tset, zup_eq]
        · rw [if_neg (by decide)]; exact tZ_ne (by decide)
        · rw [if_neg (by decide)]; exact tZ_ne (by decide)
        · rw [if_neg (by decide)]; rfl
        · rw [if_neg (by decide)]; exact tZ_ne (by decide)
        · rw [if_neg (by decide)]; exact tCold_tset (by decide) (by decide)
        · rw [if_neg (by decide)]; exact tTaken_tset (by decide)
        · rw [if_neg (by decide)]; exact tZ_ne (by decide)
        · rw [if_neg (by decide)]; rfl
      | succ m ih =>
        intro i D' him hm' ho
        have hi : i < tG σ := by omega
        have hi' : i < tG (impTo (tHalfStep σ) i) := by rw [tG_impTo, hGh]; exact hi
        have hwi := hw.half.imp i (by rw [hGh]; omega)
        have c7 : D' (6, P, 0) 3 = nI (tG σ) := by
          rw [hm'.1.2.2.2.1, tG_impTo, hGh]
        have c0 := hm'.1.1
        have hg := hm'.2.2.2.2.2.2.2 i hi'
        have q17 := hg.2.2.1
        have q16 := hg.2.1
        have q19 := hg.2.2.2.1
        have hci := nI_clamp (show i < 2 ^ 31 by omega)
        have next : ∀ D2, mSt P D2 (impTo (tHalfStep σ) (i + 1)) → kOff P D2 D → KW X 289 [some (kR (some (6, P, 0))), some (kI x1), some (kI x2), some (kI (tStepUp σ)), some (kI (nI i)), none] [] (km D2 G) 0 0 := by
          intro D2 h1 h2
          refine kwX6_pass_289 hC hE ?_
          simp only [kbX6_pass_289, mX6_pass, kblk, kstp, kent, kpad, kget, kst1, kst2, kc2, cond_false, cond_true, kfv, kfit, kOkf, kputv, kputD, kputG, kcpy, kcat, kRR, kNN, true_and, and_true, if_true, if_false, if_pos, Nat.reduceAdd, Nat.reduceEqDiff, Nat.reduceLeDiff, Nat.reduceLT, reduceIte, Prod.mk.injEq, eq_self, false_and, and_false, reduceCtorEq, Nat.reduceSub, List.reverse_cons, List.reverse_nil, List.nil_append, List.cons_append, Option.toList_some, Option.toList_none, not_true_eq_false, not_false_eq_true, nI_1]
          exact ih (i + 1) D2 (by omega) h1 h2
        have stay : ¬ (tZ (impTo (tHalfStep σ) i) 12 i = 0 ∧ tZ (impTo (tHalfStep σ) i) 11 i ≤ tZ (impTo (tHalfStep σ) i) 41 0 - tZ (impTo (tHalfStep σ) i) 15 i + 1) → mSt P D' (impTo (tHalfStep σ) (i + 1)) := by
          intro hn
          simp only [impTo]
          rw [if_neg hn]
          exact hm'
        refine kwX6_pass_228 hC hE ?_
        simp only [kbX6_pass_228, mX6_pass, kblk, kstp, kent, kpad, kget, kst1, kst2, kc2, cond_false, cond_true, kfv, kfit, kOkf, kputv, kputD, kputG, kcpy, kcat, kRR, kNN, true_and, and_true, if_true, if_false, if_pos, Nat.reduceAdd, Nat.reduceEqDiff, Nat.reduceLeDiff, Nat.reduceLT, reduceIte, Prod.mk.injEq, eq_self, false_and, and_false, reduceCtorEq, Nat.reduceSub, List.reverse_cons, List.reverse_nil, List.nil_append, List.cons_append, Option.toList_some, Option.toList_none, not_true_eq_false, not_false_eq_true, hx, c7]
        refine ⟨fun w => absurd w (nI_ge hi (by omega)), fun _ => ?_⟩
        refine kwX6_pass_237 hC hE ?_
        simp only [kbX6_pass_237, mX6_pass, kblk, kstp, kent, kpad, kget, kst1, kst2, kc2, cond_false, cond_true, kfv, kfit, kOkf, kputv, kputD, kputG, kcpy, kcat, kRR, kNN, true_and, and_true, if_true, if_false, if_pos, Nat.reduceAdd, Nat.reduceEqDiff, Nat.reduceLeDiff, Nat.reduceLT, reduceIte, Prod.mk.injEq, eq_self, false_and, and_false, reduceCtorEq, Nat.reduceSub, List.reverse_cons, List.reverse_nil, List.nil_append, List.cons_append, Option.toList_some, Option.toList_none, not_true_eq_false, not_false_eq_true, hx, l17, n17, hci, q17]
        refine ⟨vp_in_nI (show i < 91 by omega) (by omega), fun w => next D' (stay fun z => w z.1) ho, fun w0 => ?_⟩
        refine kwX6_pass_247 hC hE ?_
        simp only [kbX6_pass_247, mX6_pass, kblk, kstp, kent, kpad, kget, kst1, kst2, kc2, cond_false, cond_true, kfv, kfit, kOkf, kputv, kputD, kputG, kcpy, kcat, kRR, kNN, true_and, and_true, if_true, if_false, if_pos, Nat.reduceAdd, Nat.reduceEqDiff, Nat.reduceLeDiff, Nat.reduceLT, reduceIte, Prod.mk.injEq, eq_self, false_and, and_false, reduceCtorEq, Nat.reduceSub, List.reverse_cons, List.reverse_nil, List.nil_append, List.cons_append, Option.toList_some, Option.toList_none, not_true_eq_false, not_false_eq_true, hx, l19, l16, n19, n16, hci, q19, q16, c0]
        refine ⟨vp_in_nI (show i < 91 by omega) (by omega), vp_in_nI (show i < 91 by omega) (by omega), fun w => ?_, fun w => ?_⟩
        · obtain ⟨k14, l, hl, k13, hmem⟩ := gOK_wait (hwi.2.2.2.2.1 i hi') w0
          have hwL := hwi.1.1.2.1
          have hwG := hwi.1.1.2.2.1
          refine kwX6_pass_274 hC hE ?_
          simp only [kbX6_pass_274, mX6_pass, kblk, kstp, kent, kpad, kget, kst1, kst2, kc2, cond_false, cond_true, kfv, kfit, kOkf, kputv, kputD, kputG, kcpy, kcat, kRR, kNN, true_and, and_true, if_true, if_false, if_pos, Nat.reduceAdd, Nat.reduceEqDiff, Nat.reduceLeDiff, Nat.reduceLT, reduceIte, Prod.mk.injEq, eq_self, false_and, and_false, reduceCtorEq, Nat.reduceSub, List.reverse_cons, List.reverse_nil, List.nil_append, List.cons_append, Option.toList_some, Option.toList_none, not_true_eq_false, not_false_eq_true]
          refine KW_callV hC (by decide +kernel) kl6_106 (by decide) ((m_drop hP hm' hwi.qOK hi' hwG (by omega) k13 hmem (hwi.1.2.2.2.1 l hl).1 (fun x hx => by have := hwi.1.1.2.2.2.2 l hl x hx; omega))) rfl rfl (Nat.le_of_ble_eq_true rfl) rfl hx (by simp [kOkL, kOk, hx]) (by simp [kOkS]) (Nat.le_of_ble_eq_true rfl) (Nat.le_of_ble_eq_true rfl) (Nat.le_of_ble_eq_true rfl) ?_
          rintro v M' ⟨rfl, D2, rfl, hm2, ho2⟩
          refine kwX6_pass_280 hC hE ?_
          simp only [kbX6_pass_280, mX6_pass, kblk, kstp, kent, kpad, kget, kst1, kst2, kc2, cond_false, cond_true, kfv, kfit, kOkf, kputv, kputD, kputG, kcpy, kcat, kRR, kNN, true_and, and_true, if_true, if_false, if_pos, Nat.reduceAdd, Nat.reduceEqDiff, Nat.reduceLeDiff, Nat.reduceLT, reduceIte, Prod.mk.injEq, eq_self, false_and, and_false, reduceCtorEq, Nat.reduceSub, List.reverse_cons, List.reverse_nil, List.nil_append, List.cons_append, Option.toList_some, Option.toList_none, not_true_eq_false, not_false_eq_true, hx, l17, n17, hci]
          refine ⟨vp_in_nI (show i < 91 by omega) (by omega), ?_⟩
          refine next _ ?_ (kOff.put.trans (ho2.trans ho))
          simp only [impTo]
          rw [if_pos ⟨w0, w⟩]
          exact ⟨mSc_arr (mSc_free hm2.1 12 i 3 (by decide)) 17 i 3, mArr_put hm2.2 17 i 3 (by decide)⟩
        · refine kwX6_pass_271 hC hE ?_
          simp only [kbX6_pass_271, mX6_pass, kblk, kstp, kent, kpad, kget, kst1, kst2, kc2, cond_false, cond_true, kfv, kfit, kOkf, kputv, kputD, kputG, kcpy, kcat, kRR, kNN, true_and, and_true, if_true, if_false, if_pos, Nat.reduceAdd, Nat.reduceEqDiff, Nat.reduceLeDiff, Nat.reduceLT, reduceIte, Prod.mk.injEq, eq_self, false_and, and_false, reduceCtorEq, Nat.reduceSub, List.reverse_cons, List.reverse_nil, List.nil_append, List.cons_append, Option.toList_some, Option.toList_none, not_true_eq_false, not_false_eq_true]
          exact next D' (stay fun z => w z.2) ho
    refine kwX6_pass_225 hC hE ?_
    simp only [kbX6_pass_225, mX6_pass, kblk, kstp, kent, kpad, kget, kst1, kst2, kc2, cond_false, cond_true, kfv, kfit, kOkf, kputv, kputD, kputG, kcpy, kcat, kRR, kNN, true_and, and_true, if_true, if_false, if_pos, Nat.reduceAdd, Nat.reduceEqDiff, Nat.reduceLeDiff, Nat.reduceLT, reduceIte, Prod.mk.injEq, eq_self, false_and, and_false, reduceCtorEq, Nat.reduceSub, List.reverse_cons, List.reverse_nil, List.nil_append, List.cons_append, Option.toList_some, Option.toList_none, not_true_eq_false, not_false_eq_true]
    exact loop (tG σ) 0 D' (by omega) hm' ho
  -- the rope stands
  have stop : standsT σ (tWind σ) → KW X 40 [some (kR (some (6, P, 0))), some (kI (tWind σ)), none, none, none, none] [] (km D G) 0 0 := by
    intro hst
    have hup : tStepUp σ = 0 := by unfold tStepUp; exact if_pos hst
    have at54 : ∀ (D' : KI → Nat → Int32) (σ' : KT), mSt P D' σ' → kOff P D' D → tset σ' 42 0 (tZ σ' 42 0 + 1) = tHalfStep σ → KW X 54 [some (kR (some (6, P, 0))), some (kI (tWind σ)), some (kI 0), some (kI 0), none, none] [] (km D' G) 0 0 := by
      intro D' σ' h1 h2 h3
      have c4 : D' (6, P, 0) 4 = tZ σ' 42 0 := h1.1.2.2.2.2.1
      have h4 : mSt P (kput D' (6, P, 0) 4 (tZ σ' 42 0 + 1)) (tHalfStep σ) := by
        rw [← h3]
        refine ⟨mSc_put h1.1 4 _ ?_ ?_ ?_ ?_ ?_ ?_ ?_ ?_ ?_, mArr_free (mArr_sc h1.2 4 _) 42 0 _ (by decide)⟩
        · rw [if_neg (by decide)]; exact tZ_ne (by decide)
        · rw [if_neg (by decide)]; exact tZ_ne (by decide)
        · rw [if_neg (by decide)]; exact tZ_ne (by decide)
        · rw [if_neg (by decide)]; rfl
        · rw [if_pos rfl, tZ_tset, zup_eq]
        · rw [if_neg (by decide)]; exact tCold_tset (by decide) (by decide)
        · rw [if_neg (by decide)]; exact tTaken_tset (by decide)
        · rw [if_neg (by decide)]; exact tZ_ne (by decide)
        · rw [if_neg (by decide)]; rfl
      have h5 := fin _ (tWind σ) 0 h4 (kOff.put.trans h2)
      rw [hup] at h5
      refine kwX6_pass_54 hC hE ?_
      simp only [kbX6_pass_54, mX6_pass, kblk, kstp, kent, kpad, kget, kst1, kst2, kc2, cond_false, cond_true, kfv, kfit, kOkf, kputv, kputD, kputG, kcpy, kcat, kRR, kNN, true_and, and_true, if_true, if_false, if_pos, Nat.reduceAdd, Nat.reduceEqDiff, Nat.reduceLeDiff, Nat.reduceLT, reduceIte, Prod.mk.injEq, eq_self, false_and, and_false, reduceCtorEq, Nat.reduceSub, List.reverse_cons, List.reverse_nil, List.nil_append, List.cons_append, Option.toList_some, Option.toList_none, not_true_eq_false, not_false_eq_true]
      refine ⟨fun w => w.elim, fun _ => ?_⟩
      refine kwX6_pass_58 hC hE ?_
      simp only [kbX6_pass_58, mX6_pass, kblk, kstp, kent, kpad, kget, kst1, kst2, kc2, cond_false, cond_true, kfv, kfit, kOkf, kputv, kputD, kputG, kcpy, kcat, kRR, kNN, true_and, and_true, if_true, if_false, if_pos, Nat.reduceAdd, Nat.reduceEqDiff, Nat.reduceLeDiff, Nat.reduceLT, reduceIte, Prod.mk.injEq, eq_self, false_and, and_false, reduceCtorEq, Nat.reduceSub, List.reverse_cons, List.reverse_nil, List.nil_append, List.cons_append, Option.toList_some, Option.toList_none, not_true_eq_false, not_false_eq_true, hx, c4]
      exact h5
    refine kwX6_pass_40 hC hE ?_
    simp only [kbX6_pass_40, mX6_pass, kblk, kstp, kent, kpad, kget, kst1, kst2, kc2, cond_false, cond_true, kfv, kfit, kOkf, kputv, kputD, kputG, kcpy, kcat, kRR, kNN, true_and, and_true, if_true, if_false, if_pos, Nat.reduceAdd, Nat.reduceEqDiff, Nat.reduceLeDiff, Nat.reduceLT, reduceIte, Prod.mk.injEq, eq_self, false_and, and_false, reduceCtorEq, Nat.reduceSub, List.reverse_cons, List.reverse_nil, List.nil_append, List.cons_append, Option.toList_some, Option.toList_none, not_true_eq_false, not_false_eq_true]
    refine kwX6_pass_41 hC hE ?_
    simp only [kbX6_pass_41, mX6_pass, kblk, kstp, kent, kpad, kget, kst1, kst2, kc2, cond_false, cond_true, kfv, kfit, kOkf, kputv, kputD, kputG, kcpy, kcat, kRR, kNN, true_and, and_true, if_true, if_false, if_pos, Nat.reduceAdd, Nat.reduceEqDiff, Nat.reduceLeDiff, Nat.reduceLT, reduceIte, Prod.mk.injEq, eq_self, false_and, and_false, reduceCtorEq, Nat.reduceSub, List.reverse_cons, List.reverse_nil, List.nil_append, List.cons_append, Option.toList_some, Option.toList_none, not_true_eq_false, not_false_eq_true]
    refine ⟨fun w => at54 D σ hm kOff.refl ?_, fun w => ?_⟩
    · have : tHalfStep σ = tStand σ := by
        unfold tHalfStep
        exact (if_pos hst).trans (if_neg (le7.mp w))
      rw [this]; rfl
    · have h8 : 8 ≤ tWind σ := Classical.byContradiction fun z => w (le7.mpr z)
      refine kwX6_pass_50 hC hE ?_
      simp only [kbX6_pass_50, mX6_pass, kblk, kstp, kent, kpad, kget, kst1, kst2, kc2, cond_false, cond_true, kfv, kfit, kOkf, kputv, kputD, kputG, kcpy, kcat, kRR, kNN, true_and, and_true, if_true, if_false, if_pos, Nat.reduceAdd, Nat.reduceEqDiff, Nat.reduceLeDiff, Nat.reduceLT, reduceIte, Prod.mk.injEq, eq_self, false_and, and_false, reduceCtorEq, Nat.reduceSub, List.reverse_cons, List.reverse_nil, List.nil_append, List.cons_append, Option.toList_some, Option.toList_none, not_true_eq_false, not_false_eq_true]
      refine KW_callV hC (by decide +kernel) kl6_113 (by decide) ((m_chill hP hm hw.1.1)) rfl rfl (Nat.le_of_ble_eq_true rfl) rfl hx (by simp [kOkL, kOk, hx]) (by simp [kOkS]) (Nat.le_of_ble_eq_true rfl) (Nat.le_of_ble_eq_true rfl) (Nat.le_of_ble_eq_true rfl) ?_
      rintro v M' ⟨rfl, D2, rfl, hm2, ho2⟩
      refine at54 D2 _ hm2 ho2 ?_
      have : tHalfStep σ = coolTo (tStand σ) (tG σ) := by
        unfold tHalfStep
        exact (if_pos hst).trans (if_pos h8)
      rw [this]
      exact cool_stand
  -- the rope runs
  have run : ¬ standsT σ (tWind σ) → KW X 36 [some (kR (some (6, P, 0))), some (kI (tWind σ)), none, none, none, none] [] (km D G) 0 0 := by
    intro hst
    have hup : tUp (moveTo σ (tC σ)) = tStepUp σ := by unfold tStepUp; exact (if_neg hst).symm
    have hhalf : tHalfStep σ = tMove σ := by unfold tHalfStep; exact if_neg hst
    have hwm := hw.move
    have hCm : tC (moveTo σ (tC σ)) = tC σ := rfl
    have hGm : tG (moveTo σ (tC σ)) = tG σ := rfl
    have at221 : ∀ (D' : KI → Nat → Int32) (up : Int32), mSt P D' (tUnload (moveTo σ (tC σ))) → kOff P D' D → up = tStepUp σ → KW X 221 [some (kR (some (6, P, 0))), some (kI (tWind σ)), some (kI 1), some (kI up), none, none] [] (km D' G) 0 0 := by
      intro D' up h1 h2 h3
      subst h3
      refine kwX6_pass_221 hC hE ?_
      simp only [kbX6_pass_221, mX6_pass, kblk, kstp, kent, kpad, kget, kst1, kst2, kc2, cond_false, cond_true, kfv, kfit, kOkf, kputv, kputD, kputG, kcpy, kcat, kRR, kNN, true_and, and_true, if_true, if_false, if_pos, Nat.reduceAdd, Nat.reduceEqDiff, Nat.reduceLeDiff, Nat.reduceLT, reduceIte, Prod.mk.injEq, eq_self, false_and, and_false, reduceCtorEq, Nat.reduceSub, List.reverse_cons, List.reverse_nil, List.nil_append, List.cons_append, Option.toList_some, Option.toList_none, not_true_eq_false, not_false_eq_true]
      refine KW_callV hC (by decide +kernel) kl6_122 (by decide) ((m_valley hP (ht.off hP h2 (same_unload.trans same_move)) h1 hwm.unload)) rfl rfl (Nat.le_of_ble_eq_true rfl) rfl hx (by simp [kOkL, kOk, hx]) (by simp [kOkS]) (Nat.le_of_ble_eq_true rfl) (Nat.le_of_ble_eq_true rfl) (Nat.le_of_ble_eq_true rfl) ?_
      rintro v M' ⟨rfl, D2, rfl, hm2, ho2⟩
      refine KW.le (by simp [kLE]) (fin D2 (tWind σ) 1 ?_ (ho2.trans h2))
      rw [hhalf]; exact hm2
    have at129 : ∀ (D' : KI → Nat → Int32), mSt P D' (moveTo σ (tC σ)) → kOff P D' D → KW X 129 [some (kR (some (6, P, 0))), some (kI (tWind σ)), some (kI 1), some (kI 0), none, none] [] (km D' G) 0 0 := by
      intro D' h1 h2
      have q1 := (topAt D' h2).2
      have h38m : tZ (moveTo σ (tC σ)) 38 0 = nI h := (move_f (by decide)).trans h38
      have c7 : ∀ D2 : KI → Nat → Int32, ∀ σ2 : KT, mSt P D2 σ2 → tG σ2 = tG σ → D2 (6, P, 0) 3 = nI (tG σ) := fun D2 σ2 a e => by rw [a.1.2.2.2.1, e]
      refine kwX6_pass_129 hC hE ?_
      simp only [kbX6_pass_129, mX6_pass, kblk, kstp, kent, kpad, kget, kst1, kst2, kc2, cond_false, cond_true, kfv, kfit, kOkf, kputv, kputD, kputG, kcpy, kcat, kRR, kNN, true_and, and_true, if_true, if_false, if_pos, Nat.reduceAdd, Nat.reduceEqDiff, Nat.reduceLeDiff, Nat.reduceLT, reduceIte, Prod.mk.injEq, eq_self, false_and, and_false, reduceCtorEq, Nat.reduceSub, List.reverse_cons, List.reverse_nil, List.nil_append, List.cons_append, Option.toList_some, Option.toList_none, not_true_eq_false, not_false_eq_true, hx, h7, q1]
      refine KW_callV hC (by decide +kernel) kl6_119 (by decide) ((m_find hP (ht.off hP h2 same_move) h1 (hw.1.move _).1 (nI h))) rfl rfl (Nat.le_of_ble_eq_true rfl) rfl hx (by simp [kOkL, kOk, hx]) (by simp [kOkS]) (Nat.le_of_ble_eq_true rfl) (Nat.le_of_ble_eq_true rfl) (Nat.le_of_ble_eq_true rfl) ?_
      rintro v M' ⟨rfl, rfl⟩
      refine kwX6_pass_140 hC hE ?_
      simp only [kbX6_pass_140, mX6_pass, kblk, kstp, kent, kpad, kget, kst1, kst2, kc2, cond_false, cond_true, kfv, kfit, kOkf, kputv, kputD, kputG, kcpy, kcat, kRR, kNN, true_and, and_true, if_true, if_false, if_pos, Nat.reduceAdd, Nat.reduceEqDiff, Nat.reduceLeDiff, Nat.reduceLT, reduceIte, Prod.mk.injEq, eq_self, false_and, and_false, reduceCtorEq, Nat.reduceSub, List.reverse_cons, List.reverse_nil, List.nil_append, List.cons_append, Option.toList_some, Option.toList_none, not_true_eq_false, not_false_eq_true]
      rcases chairAt_spec (p := nI h) (hw.1.move (tC σ)).1 with ⟨n1, -⟩ | ⟨c, hcc, s1, s2, s3, s4⟩
      · have hu : tUnload (moveTo σ (tC σ)) = moveTo σ (tC σ) := by
          unfold tUnload; rw [h38m, if_pos n1]
        have hu0 : (0 : Int32) = tStepUp σ := by
          rw [← hup]; unfold tUp; rw [h38m, if_pos n1]
        have go := at221 D' 0 (by rw [hu]; exact h1) h2 hu0
        refine kwX6_pass_145 hC hE ?_
        simp only [kbX6_pass_145, mX6_pass, kblk, kstp, kent, kpad, kget, kst1, kst2, kc2, cond_false, cond_true, kfv, kfit, kOkf, kputv, kputD, kputG, kcpy, kcat, kRR, kNN, true_and, and_true, if_true, if_false, if_pos, Nat.reduceAdd, Nat.reduceEqDiff, Nat.reduceLeDiff, Nat.reduceLT, reduceIte, Prod.mk.injEq, eq_self, false_and, and_false, reduceCtorEq, Nat.reduceSub, List.reverse_cons, List.reverse_nil, List.nil_append, List.cons_append, Option.toList_some, Option.toList_none, not_true_eq_false, not_false_eq_true, hx, c7 D' _ h1 hGm]
        refine ⟨fun _ => KW.le (by simp [kLE]) go, fun _ => ?_⟩
        refine kwX6_pass_154 hC hE ?_
        simp only [kbX6_pass_154, mX6_pass, kblk, kstp, kent, kpad, kget, kst1, kst2, kc2, cond_false, cond_true, kfv, kfit, kOkf, kputv, kputD, kputG, kcpy, kcat, kRR, kNN, true_and, and_true, if_true, if_false, if_pos, Nat.reduceAdd, Nat.reduceEqDiff, Nat.reduceLeDiff, Nat.reduceLT, reduceIte, Prod.mk.injEq, eq_self, false_and, and_false, reduceCtorEq, Nat.reduceSub, List.reverse_cons, List.reverse_nil, List.nil_append, List.cons_append, Option.toList_some, Option.toList_none, not_true_eq_false, not_false_eq_true]
        exact ⟨fun _ => KW.le (by simp [kLE]) go, fun w => absurd n1 w⟩
      · rw [s1]
        have hc : c < tC σ := hcc
        have loopB : ∀ (m j : Nat) (D' : KI → Nat → Int32), j + m = tG σ → mSt P D' (unlTo (moveTo σ (tC σ)) (nI c) j) → kOff P D' D → KW X 145 [some (kR (some (6, P, 0))), some (kI (tWind σ)), some (kI 1), some (kI (isum (fun g => if tZ (moveTo σ (tC σ)) 12 g = 1 ∧ tZ (moveTo σ (tC σ)) 14 g = nI c then tZ (moveTo σ (tC σ)) 10 g else 0) j)), some (kI (nI c)), some (kI (nI j))] [] (km D' G) 0 0 := by
          intro m
          induction m with
          | zero =>
            intro j D' hjm h1 h2
            have hj : j = tG σ := by omega
            subst hj
            refine kwX6_pass_145 hC hE ?_
            simp only [kbX6_pass_145, mX6_pass, kblk, kstp, kent, kpad, kget, kst1, kst2, kc2, cond_false, cond_true, kfv, kfit, kOkf, kputv, kputD, kputG, kcpy, kcat, kRR, kNN, true_and, and_true, if_true, if_false, if_pos, Nat.reduceAdd, Nat.reduceEqDiff, Nat.reduceLeDiff, Nat.reduceLT, reduceIte, Prod.mk.injEq, eq_self, false_and, and_false, reduceCtorEq, Nat.reduceSub, List.reverse_cons, List.reverse_nil, List.nil_append, List.cons_append, Option.toList_some, Option.toList_none, not_true_eq_false, not_false_eq_true, hx, c7 D' _ h1 rfl]
            refine ⟨fun _ => KW.le (by simp [kLE]) (at221 D' (isum (fun g => if tZ (moveTo σ (tC σ)) 12 g = 1 ∧ tZ (moveTo σ (tC σ)) 14 g = nI c then tZ (moveTo σ (tC σ)) 10 g else 0) (tG σ)) ?_ h2 ?_), fun w => absurd (nI_le (Nat.le_refl _) (by omega)) w⟩
            · unfold tUnload
              rw [h38m, if_neg s2, s3, s1]
              exact ⟨mSc_free (mSc_free h1.1 2 c 0 (by decide)) 3 c 0 (by decide), mArr_free (mArr_free h1.2 2 c 0 (by decide)) 3 c 0 (by decide)⟩
            · rw [← hup]
              unfold tUp
              rw [h38m, if_neg s2, s3]
              exact (up_sum hwm hcc).symm
          | succ m ih =>
            intro j D' hjm h1 h2
            have hj : j < tG σ := by omega
            have hcj := nI_clamp (show j < 2 ^ 31 by omega)
            have hg := h1.2.2.2.2.2.2.2 j hj
            have q17 := hg.2.2.1
            have q15 := hg.1
            have q18 := hg.2.2.2.2.2.2.2
            rw [unl_12] at q17
            rw [unl_f (by decide)] at q15
            rw [unl_14] at q18
            have q41 : D' (6, P, 0) 0 = tZ (moveTo σ (tC σ)) 41 0 := h1.1.1.trans (unl_f (by decide))
            have hgo := (hwm.2.2.2.2.1 j hj).2
            have next : ∀ (D2 : KI → Nat → Int32) (u : Int32), u = (if tZ (moveTo σ (tC σ)) 12 j = 1 ∧ tZ (moveTo σ (tC σ)) 14 j = nI c then tZ (moveTo σ (tC σ)) 10 j else 0) → mSt P D2 (unlTo (moveTo σ (tC σ)) (nI c) (j + 1)) → kOff P D2 D → KW X 215 [some (kR (some (6, P, 0))), some (kI (tWind σ)), some (kI 1), some (kI (isum (fun g => if tZ (moveTo σ (tC σ)) 12 g = 1 ∧ tZ (moveTo σ (tC σ)) 14 g = nI c then tZ (moveTo σ (tC σ)) 10 g else 0) j + u)), some (kI (nI c)), some (kI (nI j))] [] (km D2 G) 0 0 := by
              intro D2 u hu a1 a2
              refine kwX6_pass_215 hC hE ?_
              simp only [kbX6_pass_215, mX6_pass, kblk, kstp, kent, kpad, kget, kst1, kst2, kc2, cond_false, cond_true, kfv, kfit, kOkf, kputv, kputD, kputG, kcpy, kcat, kRR, kNN, true_and, and_true, if_true, if_false, if_pos, Nat.reduceAdd, Nat.reduceEqDiff, Nat.reduceLeDiff, Nat.reduceLT, reduceIte, Prod.mk.injEq, eq_self, false_and, and_false, reduceCtorEq, Nat.reduceSub, List.reverse_cons, List.reverse_nil, List.nil_append, List.cons_append, Option.toList_some, Option.toList_none, not_true_eq_false, not_false_eq_true, nI_1]
              have := ih (j + 1) D2 (by omega) a1 a2
              simp only [isum] at this
              rw [← hu] at this
              exact this
            refine kwX6_pass_145 hC hE ?_
            simp only [kbX6_pass_145, mX6_pass, kblk, kstp, kent, kpad, kget, kst1, kst2, kc2, cond_false, cond_true, kfv, kfit, kOkf, kputv, kputD, kputG, kcpy, kcat, kRR, kNN, true_and, and_true, if_true, if_false, if_pos, Nat.reduceAdd, Nat.reduceEqDiff, Nat.reduceLeDiff, Nat.reduceLT, reduceIte, Prod.mk.injEq, eq_self, false_and, and_false, reduceCtorEq, Nat.reduceSub, List.reverse_cons, List.reverse_nil, List.nil_append, List.cons_append, Option.toList_some, Option.toList_none, not_true_eq_false, not_false_eq_true, hx, c7 D' _ h1 rfl]
            refine ⟨fun w => absurd w (nI_ge hj (by omega)), fun _ => ?_⟩
            refine kwX6_pass_154 hC hE ?_
            simp only [kbX6_pass_154, mX6_pass, kblk, kstp, kent, kpad, kget, kst1, kst2, kc2, cond_false, cond_true, kfv, kfit, kOkf, kputv, kputD, kputG, kcpy, kcat, kRR, kNN, true_and, and_true, if_true, if_false, if_pos, Nat.reduceAdd, Nat.reduceEqDiff, Nat.reduceLeDiff, Nat.reduceLT, reduceIte, Prod.mk.injEq, eq_self, false_and, and_false, reduceCtorEq, Nat.reduceSub, List.reverse_cons, List.reverse_nil, List.nil_append, List.cons_append, Option.toList_some, Option.toList_none, not_true_eq_false, not_false_eq_true]
            refine ⟨fun w => absurd w (nI_m1 (by omega)), fun _ => ?_⟩
            refine kwX6_pass_160 hC hE ?_
            simp only [kbX6_pass_160, mX6_pass, kblk, kstp, kent, kpad, kget, kst1, kst2, kc2, cond_false, cond_true, kfv, kfit, kOkf, kputv, kputD, kputG, kcpy, kcat, kRR, kNN, true_and, and_true, if_true, if_false, if_pos, Nat.reduceAdd, Nat.reduceEqDiff, Nat.reduceLeDiff, Nat.reduceLT, reduceIte, Prod.mk.injEq, eq_self, false_and, and_false, reduceCtorEq, Nat.reduceSub, List.reverse_cons, List.reverse_nil, List.nil_append, List.cons_append, Option.toList_some, Option.toList_none, not_true_eq_false, not_false_eq_true, hx, l17, n17, hcj, q17]
            by_cases hz : tZ (moveTo σ (tC σ)) 14 j = nI c
            · have h1' : tZ (moveTo σ (tC σ)) 12 j = 1 := by
                rcases hgo with ⟨-, a, -⟩ | ⟨a, -⟩ | ⟨-, -, a⟩
                · rw [a] at hz; exact absurd hz.symm (nI_m1 (by omega))
                · exact a
                · rw [a] at hz; exact absurd hz.symm (nI_m1 (by omega))
              refine ⟨vp_in_nI (show j < 91 by omega) (by omega), fun w => absurd h1' w, fun _ => ?_⟩
              have q18' := q18 (by rw [hz]; exact nI_m1 (by omega))
              refine kwX6_pass_171 hC hE ?_
              simp only [kbX6_pass_171, mX6_pass, kblk, kstp, kent, kpad, kget, kst1, kst2, kc2, cond_false, cond_true, kfv, kfit, kOkf, kputv, kputD, kputG, kcpy, kcat, kRR, kNN, true_and, and_true, if_true, if_false, if_pos, Nat.reduceAdd, Nat.reduceEqDiff, Nat.reduceLeDiff, Nat.reduceLT, reduceIte, Prod.mk.injEq, eq_self, false_and, and_false, reduceCtorEq, Nat.reduceSub, List.reverse_cons, List.reverse_nil, List.nil_append, List.cons_append, Option.toList_some, Option.toList_none, not_true_eq_false, not_false_eq_true, hx, l18, n18, hcj, q18']
              refine ⟨vp_in_nI (show j < 91 by omega) (by omega), fun _ => ?_, fun w => absurd hz w⟩
              have e1 : kput D' (8, P, 17) j 2 (6, P, 0) 0 = tZ (moveTo σ (tC σ)) 41 0 := by simp [kput, q41]
              have e2 : ∀ v, kput (kput D' (8, P, 17) j 2) (8, P, 20) j v (8, P, 15) j = tZ (moveTo σ (tC σ)) 10 j := fun v => by simp [kput, q15]
              refine kwX6_pass_186 hC hE ?_
              simp only [kbX6_pass_186, mX6_pass, kblk, kstp, kent, kpad, kget, kst1, kst2, kc2, cond_false, cond_true, kfv, kfit, kOkf, kputv, kputD, kputG, kcpy, kcat, kRR, kNN, true_and, and_true, if_true, if_false, if_pos, Nat.reduceAdd, Nat.reduceEqDiff, Nat.reduceLeDiff, Nat.reduceLT, reduceIte, Prod.mk.injEq, eq_self, false_and, and_false, reduceCtorEq, Nat.reduceSub, List.reverse_cons, List.reverse_nil, List.nil_append, List.cons_append, Option.toList_some, Option.toList_none, not_true_eq_false, not_false_eq_true, hx, l17, l20, l15, n17, n20, n15, hcj, e1, e2]
              refine ⟨vp_in_nI (show j < 91 by omega) (by omega), vp_in_nI (show j < 91 by omega) (by omega), vp_in_nI (show j < 91 by omega) (by omega), ?_⟩
              refine next _ _ (if_pos ⟨h1', hz⟩).symm ?_ (kOff.put.trans (kOff.put.trans h2))
              rw [unl_yes hz]
              exact ⟨mSc_arr (mSc_arr (mSc_free (mSc_free (mSc_free h1.1 12 j 2 (by decide)) 14 j (-1) (by decide)) 16 j _ (by decide)) 17 j 2) 20 j _, mArr_put (mArr_m1 (mArr_put h1.2 17 j 2 (by decide)) 14 j (by decide)) 20 j _ (by decide)⟩
            · have nx := next D' 0 (if_neg (fun z => hz z.2)).symm (by rw [unl_no hz]; exact h1) h2
              rw [Int32.add_zero] at nx
              refine ⟨vp_in_nI (show j < 91 by omega) (by omega), fun _ => nx, fun w => ?_⟩
              rcases hgo with ⟨a, -⟩ | ⟨-, -, c', hc', a⟩ | ⟨a, -⟩
              · rw [a] at w; exact absurd w (by decide)
              · have q18' := q18 (by rw [a]; rw [hCm] at hc'; exact nI_m1 (by omega))
                refine kwX6_pass_171 hC hE ?_
                simp only [kbX6_pass_171, mX6_pass, kblk, kstp, kent, kpad, kget, kst1, kst2, kc2, cond_false, cond_true, kfv, kfit, kOkf, kputv, kputD, kputG, kcpy, kcat, kRR, kNN, true_and, and_true, if_true, if_false, if_pos, Nat.reduceAdd, Nat.reduceEqDiff, Nat.reduceLeDiff, Nat.reduceLT, reduceIte, Prod.mk.injEq, eq_self, false_and, and_false, reduceCtorEq, Nat.reduceSub, List.reverse_cons, List.reverse_nil, List.nil_append, List.cons_append, Option.toList_some, Option.toList_none, not_true_eq_false, not_false_eq_true, hx, l18, n18, hcj, q18']
                refine ⟨vp_in_nI (show j < 91 by omega) (by omega), fun w => absurd w hz, fun _ => ?_⟩
                refine kwX6_pass_183 hC hE ?_
                simp only [kbX6_pass_183, mX6_pass, kblk, kstp, kent, kpad, kget, kst1, kst2, kc2, cond_false, cond_true, kfv, kfit, kOkf, kputv, kputD, kputG, kcpy, kcat, kRR, kNN, true_and, and_true, if_true, if_false, if_pos, Nat.reduceAdd, Nat.reduceEqDiff, Nat.reduceLeDiff, Nat.reduceLT, reduceIte, Prod.mk.injEq, eq_self, false_and, and_false, reduceCtorEq, Nat.reduceSub, List.reverse_cons, List.reverse_nil, List.nil_append, List.cons_append, Option.toList_some, Option.toList_none, not_true_eq_false, not_false_eq_true]
                exact nx
              · rcases a with a | a
                · rw [a] at w; exact absurd w (by decide)
                · rw [a] at w; exact absurd w (by decide)
        exact loopB (tG σ) 0 D' (by omega) (by rw [unl_0]; exact h1) h2
    have loopA : ∀ (m i : Nat) (D' : KI → Nat → Int32), i + m = tC σ → mSt P D' (moveTo σ i) → kOff P D' D → KW X 74 [some (kR (some (6, P, 0))), some (kI (tWind σ)), some (kI 1), some (kI 0), some (kI (nI i)), none] [] (km D' G) 0 0 := by
      intro m
      induction m with
      | zero =>
        intro i D' him h1 h2
        have hi : i = tC σ := by omega
        subst hi
        have c5 := (topAt D' h2).1
        refine kwX6_pass_74 hC hE ?_
        simp only [kbX6_pass_74, mX6_pass, kblk, kstp, kent, kpad, kget, kst1, kst2, kc2, cond_false, cond_true, kfv, kfit, kOkf, kputv, kputD, kputG, kcpy, kcat, kRR, kNN, true_and, and_true, if_true, if_false, if_pos, Nat.reduceAdd, Nat.reduceEqDiff, Nat.reduceLeDiff, Nat.reduceLT, reduceIte, Prod.mk.injEq, eq_self, false_and, and_false, reduceCtorEq, Nat.reduceSub, List.reverse_cons, List.reverse_nil, List.nil_append, List.cons_append, Option.toList_some, Option.toList_none, not_true_eq_false, not_false_eq_true, hx, h7, c5]
        exact ⟨fun _ => KW.le (by simp [kLE]) (at129 D' h1 h2), fun w => absurd (nI_le (Nat.le_refl _) (by omega)) w⟩
      | succ m ih =>
        intro i D' him h1 h2
        have hi : i < tC σ := by omega
        have hci := nI_clamp (show i < 2 ^ 31 by omega)
        obtain ⟨c5, q1⟩ := topAt D' h2
        have q10 : D' (8, P, 10) i = tZ σ 1 i := (h1.2.2.1 i hi).trans move_1
        have next : ∀ D2, mSt P D2 (moveTo σ (i + 1)) → kOff P D2 D → KW X 123 [some (kR (some (6, P, 0))), some (kI (tWind σ)), some (kI 1), some (kI 0), some (kI (nI i)), none] [] (km D2 G) 0 0 := by
          intro D2 a1 a2
          refine kwX6_pass_123 hC hE ?_
          simp only [kbX6_pass_123, mX6_pass, kblk, kstp, kent, kpad, kget, kst1, kst2, kc2, cond_false, cond_true, kfv, kfit, kOkf, kputv, kputD, kputG, kcpy, kcat, kRR, kNN, true_and, and_true, if_true, if_false, if_pos, Nat.reduceAdd, Nat.reduceEqDiff, Nat.reduceLeDiff, Nat.reduceLT, reduceIte, Prod.mk.injEq, eq_self, false_and, and_false, reduceCtorEq, Nat.reduceSub, List.reverse_cons, List.reverse_nil, List.nil_append, List.cons_append, Option.toList_some, Option.toList_none, not_true_eq_false, not_false_eq_true, nI_1]
          exact ih (i + 1) D2 (by omega) a1 a2
        refine kwX6_pass_74 hC hE ?_
        simp only [kbX6_pass_74, mX6_pass, kblk, kstp, kent, kpad, kget, kst1, kst2, kc2, cond_false, cond_true, kfv, kfit, kOkf, kputv, kputD, kputG, kcpy, kcat, kRR, kNN, true_and, and_true, if_true, if_false, if_pos, Nat.reduceAdd, Nat.reduceEqDiff, Nat.reduceLeDiff, Nat.reduceLT, reduceIte, Prod.mk.injEq, eq_self, false_and, and_false, reduceCtorEq, Nat.reduceSub, List.reverse_cons, List.reverse_nil, List.nil_append, List.cons_append, Option.toList_some, Option.toList_none, not_true_eq_false, not_false_eq_true, hx, h7, c5]
        refine ⟨fun w => absurd w (nI_ge hi (by omega)), fun _ => ?_⟩
        rcases (hw.2.2.2.1 i hi).2.2.2.1 with ⟨-, p1⟩ | ⟨-, p, p1, p2⟩
        · rw [p1] at q10
          refine kwX6_pass_86 hC hE ?_
          simp only [kbX6_pass_86, mX6_pass, kblk, kstp, kent, kpad, kget, kst1, kst2, kc2, cond_false, cond_true, kfv, kfit, kOkf, kputv, kputD, kputG, kcpy, kcat, kRR, kNN, true_and, and_true, if_true, if_false, if_pos, Nat.reduceAdd, Nat.reduceEqDiff, Nat.reduceLeDiff, Nat.reduceLT, reduceIte, Prod.mk.injEq, eq_self, false_and, and_false, reduceCtorEq, Nat.reduceSub, List.reverse_cons, List.reverse_nil, List.nil_append, List.cons_append, Option.toList_some, Option.toList_none, not_true_eq_false, not_false_eq_true, hx, l10, n10, hci, q10]
          refine ⟨vp_in_nI (show i < 20 by omega) (by omega), fun _ => next D' (by rw [move_no p1]; exact h1) h2, fun w => w.elim⟩
        · have hne : ¬ tZ σ 1 i = -1 := by rw [p2]; exact nI_m1 (by omega)
          have h2h : (2 : Int32) * nI h = nI (2 * h) := nI_mul 2 h
          have hrm := irem_nat (a := p + 1) (b := 2 * h) (by omega) (by omega) (by omega)
          rw [p2] at q10
          refine kwX6_pass_86 hC hE ?_
          simp only [kbX6_pass_86, mX6_pass, kblk, kstp, kent, kpad, kget, kst1, kst2, kc2, cond_false, cond_true, kfv, kfit, kOkf, kputv, kputD, kputG, kcpy, kcat, kRR, kNN, true_and, and_true, if_true, if_false, if_pos, Nat.reduceAdd, Nat.reduceEqDiff, Nat.reduceLeDiff, Nat.reduceLT, reduceIte, Prod.mk.injEq, eq_self, false_and, and_false, reduceCtorEq, Nat.reduceSub, List.reverse_cons, List.reverse_nil, List.nil_append, List.cons_append, Option.toList_some, Option.toList_none, not_true_eq_false, not_false_eq_true, hx, l10, n10, hci, q10]
          refine ⟨vp_in_nI (show i < 20 by omega) (by omega), fun w => absurd w (nI_m1 (by omega)), fun _ => ?_⟩
          refine kwX6_pass_97 hC hE ?_
          simp only [kbX6_pass_97, mX6_pass, kblk, kstp, kent, kpad, kget, kst1, kst2, kc2, cond_false, cond_true, kfv, kfit, kOkf, kputv, kputD, kputG, kcpy, kcat, kRR, kNN, true_and, and_true, if_true, if_false, if_pos, Nat.reduceAdd, Nat.reduceEqDiff, Nat.reduceLeDiff, Nat.reduceLT, reduceIte, Prod.mk.injEq, eq_self, false_and, and_false, reduceCtorEq, Nat.reduceSub, List.reverse_cons, List.reverse_nil, List.nil_append, List.cons_append, Option.toList_some, Option.toList_none, not_true_eq_false, not_false_eq_true, hx, h7, l10, n10, hci, q10, q1, nI_1, h2h, hrm]
          refine ⟨vp_in_nI (show i < 20 by omega) (by omega), nI_nz (by omega) (by omega), vp_in_nI (show i < 20 by omega) (by omega), ?_⟩
          refine next _ ?_ (kOff.put.trans h2)
          have hv : nI ((p + 1) % (2 * h)) = mvT (tZ σ 38 0) (tZ σ 1 i) := by
            rw [h38, p2, mvT_nat h12 p1]
            congr 1
            by_cases hh : p + 1 < 2 * h
            · rw [if_pos hh, Nat.mod_eq_of_lt hh]
            · rw [if_neg hh]
              have : p + 1 = 2 * h := by omega
              rw [this, Nat.mod_self]
          rw [move_yes hne, hv]
          exact ⟨mSc_arr (mSc_free h1.1 1 i _ (by decide)) 10 i _, mArr_put h1.2 10 i _ (by decide)⟩
    refine kwX6_pass_36 hC hE ?_
    simp only [kbX6_pass_36, mX6_pass, kblk, kstp, kent, kpad, kget, kst1, kst2, kc2, cond_false, cond_true, kfv, kfit, kOkf, kputv, kputD, kputG, kcpy, kcat, kRR, kNN, true_and, and_true, if_true, if_false, if_pos, Nat.reduceAdd, Nat.reduceEqDiff, Nat.reduceLeDiff, Nat.reduceLT, reduceIte, Prod.mk.injEq, eq_self, false_and, and_false, reduceCtorEq, Nat.reduceSub, List.reverse_cons, List.reverse_nil, List.nil_append, List.cons_append, Option.toList_some, Option.toList_none, not_true_eq_false, not_false_eq_true]
    refine kwX6_pass_41 hC hE ?_
    simp only [kbX6_pass_41, mX6_pass, kblk, kstp, kent, kpad, kget, kst1, kst2, kc2, cond_false, cond_true, kfv, kfit, kOkf, kputv, kputD, kputG, kcpy, kcat, kRR, kNN, true_and, and_true, if_true, if_false, if_pos, Nat.reduceAdd, Nat.reduceEqDiff, Nat.reduceLeDiff, Nat.reduceLT, reduceIte, Prod.mk.injEq, eq_self, false_and, and_false, reduceCtorEq, Nat.reduceSub, List.reverse_cons, List.reverse_nil, List.nil_append, List.cons_append, Option.toList_some, Option.toList_none, not_true_eq_false, not_false_eq_true]
    refine ⟨fun _ => ?_, fun w => absurd (le7.mpr fun z => hst (Or.inl z)) w⟩
    refine kwX6_pass_54 hC hE ?_
    simp only [kbX6_pass_54, mX6_pass, kblk, kstp, kent, kpad, kget, kst1, kst2, kc2, cond_false, cond_true, kfv, kfit, kOkf, kputv, kputD, kputG, kcpy, kcat, kRR, kNN, true_and, and_true, if_true, if_false, if_pos, Nat.reduceAdd, Nat.reduceEqDiff, Nat.reduceLeDiff, Nat.reduceLT, reduceIte, Prod.mk.injEq, eq_self, false_and, and_false, reduceCtorEq, Nat.reduceSub, List.reverse_cons, List.reverse_nil, List.nil_append, List.cons_append, Option.toList_some, Option.toList_none, not_true_eq_false, not_false_eq_true]
    refine ⟨fun _ => ?_, fun w => absurd w (by decide)⟩
    refine kwX6_pass_71 hC hE ?_
    simp only [kbX6_pass_71, mX6_pass, kblk, kstp, kent, kpad, kget, kst1, kst2, kc2, cond_false, cond_true, kfv, kfit, kOkf, kputv, kputD, kputG, kcpy, kcat, kRR, kNN, true_and, and_true, if_true, if_false, if_pos, Nat.reduceAdd, Nat.reduceEqDiff, Nat.reduceLeDiff, Nat.reduceLT, reduceIte, Prod.mk.injEq, eq_self, false_and, and_false, reduceCtorEq, Nat.reduceSub, List.reverse_cons, List.reverse_nil, List.nil_append, List.cons_append, Option.toList_some, Option.toList_none, not_true_eq_false, not_false_eq_true]
    exact loopA (tC σ) 0 D (by omega) (by rw [move_0]; exact hm) kOff.refl
  refine kwX6_pass_0 hC hE ?_
  simp only [kbX6_pass_0, mX6_pass, kblk, kstp, kent, kpad, kget, kst1, kst2, kc2, cond_false, cond_true, kfv, kfit, kOkf, kputv, kputD, kputG, kcpy, kcat, kRR, kNN, true_and, and_true, if_true, if_false, if_pos, Nat.reduceAdd, Nat.reduceEqDiff, Nat.reduceLeDiff, Nat.reduceLT, reduceIte, Prod.mk.injEq, eq_self, false_and, and_false, reduceCtorEq, Nat.reduceSub, List.reverse_cons, List.reverse_nil, List.nil_append, List.cons_append, Option.toList_some, Option.toList_none, not_true_eq_false, not_false_eq_true, hx, h7, l42, n42, q0, hr24, c24, qw]
  refine ⟨by decide, vp_in_nI (show s % 24 < 24 by omega) (by omega), fun w5 => ?_, fun w5 => ?_⟩
  · refine run (fun z => ?_)
    rcases z with z | z
    · exact Int32.lt_irrefl (Int32.lt_of_lt_of_le w5 (Int32.le_trans (by decide) z))
    · exact absurd z.1 (Int32.not_le.mpr w5)
  · refine kwX6_pass_21 hC hE ?_
    simp only [kbX6_pass_21, mX6_pass, kblk, kstp, kent, kpad, kget, kst1, kst2, kc2, cond_false, cond_true, kfv, kfit, kOkf, kputv, kputD, kputG, kcpy, kcat, kRR, kNN, true_and, and_true, if_true, if_false, if_pos, Nat.reduceAdd, Nat.reduceEqDiff, Nat.reduceLeDiff, Nat.reduceLT, reduceIte, Prod.mk.injEq, eq_self, false_and, and_false, reduceCtorEq, Nat.reduceSub, List.reverse_cons, List.reverse_nil, List.nil_append, List.cons_append, Option.toList_some, Option.toList_none, not_true_eq_false, not_false_eq_true]
    refine ⟨fun w8 => stop (Or.inl w8), fun w8 => ?_⟩
    refine kwX6_pass_27 hC hE ?_
    simp only [kbX6_pass_27, mX6_pass, kblk, kstp, kent, kpad, kget, kst1, kst2, kc2, cond_false, cond_true, kfv, kfit, kOkf, kputv, kputD, kputG, kcpy, kcat, kRR, kNN, true_and, and_true, if_true, if_false, if_pos, Nat.reduceAdd, Nat.reduceEqDiff, Nat.reduceLeDiff, Nat.reduceLT, reduceIte, Prod.mk.injEq, eq_self, false_and, and_false, reduceCtorEq, Nat.reduceSub, List.reverse_cons, List.reverse_nil, List.nil_append, List.cons_append, Option.toList_some, Option.toList_none, not_true_eq_false, not_false_eq_true, hx, q0, hr2]
    have hodd := odd_nat (s := s) (by omega)
    refine ⟨by decide, fun wo => stop (Or.inr ⟨Int32.not_lt.mp w5, ?_⟩), fun wo => run (fun z => ?_)⟩
    · rw [hs41]
      refine hodd.mpr ?_
      have h0 : s % 2 ≠ 0 := fun z => wo (by rw [z]; rfl)
      omega
    · rcases z with z | z
      · exact w8 z
      · rw [hs41] at z
        have := hodd.mp z.2
        have w2 := (nI_eq (b := 0) (by omega) (by decide)).mp wo
        omega
end MPASS

/-! The reference: loading a chair. -/
def lInv (P b h c z : Nat) (σ : KT) (D : KI → Nat → Int32) (τ : KT) (n r : Nat) (D' : KI → Nat → Int32) : Prop :=
  kWf0 b h 0 h τ ∧ kSame τ σ ∧ tZ τ 1 c = nI 0 ∧ tZ τ 2 c = nI r ∧ tZ τ 4 c = tZ σ 4 c + nI r ∧ n ≤ r ∧ r ≤ z ∧ (n = 0 → r = 0) ∧ mSt P D' (held τ c (tZ σ 4 c)) ∧ kOff P D' D
section MLOAD
variable {D : KI → Nat → Int32} {G : KI → Nat → Int64} {P : Nat} {σ : KT}
theorem m_load (hP : P = 2 ∨ P = 3) (ht : mTop D σ) (hm : mSt P D σ) {b h : Nat} (hw : kWf0 b h 1 h σ) {c : Nat} (hc : c < tC σ) (hp : tZ σ 1 c = nI 0) : SpQ mX6_load 0 0 [kR (some (6, P, 0)), kI (nI c)] (km D G) (fun v M' => v = none ∧ mTo P D G (tLoadAt σ c) M') := by
  refine SpQ_of (own := 6) (ini := false) (by decide +kernel) rfl (by decide) (Nat.le_of_ble_eq_true rfl) ?_
  intro X hC hE hL0
  obtain ⟨bC, bL, bG, -⟩ := hw.1.1
  obtain ⟨z, z1, z2, z3⟩ := (hw.2.2.2.1 c hc).1
  have hx := mLive hP
  have h7 := mLive7
  have l4 := mLive4 (k := 0) (by decide)
  have n4 : kN8 4 0 = 20 := rfl
  have l11 := mLive8 (k := 11) hP (by decide) (by decide)
  have l12 := mLive8 (k := 12) hP (by decide) (by decide)
  have l13 := mLive8 (k := 13) hP (by decide) (by decide)
  have l14 := mLive8 (k := 14) hP (by decide) (by decide)
  have l15 := mLive8 (k := 15) hP (by decide) (by decide)
  have l17 := mLive8 (k := 17) hP (by decide) (by decide)
  have l18 := mLive8 (k := 18) hP (by decide) (by decide)
  have n11 := kN8_P (k := 11) hP
  have n12 := kN8_P (k := 12) hP
  have n13 := kN8_P (k := 13) hP
  have n14 := kN8_P (k := 14) hP
  have n15 := kN8_P (k := 15) hP
  have n17 := kN8_P (k := 17) hP
  have n18 := kN8_P (k := 18) hP
  simp only [Nat.reduceLT, Nat.reduceEqDiff, if_false, if_true] at n11 n12 n13 n14 n15 n17 n18
  have hcc := nI_clamp (show c < 2 ^ 31 by omega)
  have seatsAt : ∀ D', kOff P D' D → D' (8, 4, 0) c = nI z := fun D' ho => by
    rw [ho _ (by rcases hP with rfl | rfl <;> decide), ht.2.1 c hc, z3]
  have lanesAt : ∀ D', kOff P D' D → D' (7, 4, 0) 3 = nI (tL σ) := fun D' ho => by
    rw [ho _ (by rcases hP with rfl | rfl <;> decide)]; exact ht.1.2.2
  have fin : ∀ (τ : KT) (n r : Nat) (D' : KI → Nat → Int32), lInv P b h c z σ D τ n r D' → loadT c 6 σ 0 = (τ, n) → KW X 177 [some (kR (some (6, P, 0))), some (kI (nI c)), some (kI (nI (z - r))), none, none, none, none] [] (km D' G) 0 0 := by
    rintro τ n r D' ⟨i1, i2, i3, i4, i5, i6, i7, i8, i9, i10⟩ he
    have hs := seatsAt D' i10
    have hld : tLoadAt σ c = if n = 0 then τ else tset τ 43 0 (tZ τ 43 0 + 1) := by
      unfold tLoadAt; rw [he]
    have q11 : D' (8, P, 11) c = tZ σ 4 c := by
      rw [i9.2.2.2.1 c (by omega)]; exact zup_eq
    have q6 := i9.1.2.2.2.2.2.2.1
    have q7 : D' (6, P, 0) 7 = tZ τ 43 0 := i9.1.2.2.2.2.2.2.2.1
    have hsub : nI z - nI (z - r) = nI r := by
      rw [nI_subn (by omega)]; congr 1; omega
    refine kwX6_load_177 hC hE ?_
    simp only [kbX6_load_177, mX6_load, kblk, kstp, kent, kpad, kget, kst1, kst2, kc2, cond_false, cond_true, kfv, kfit, kOkf, kputv, kputD, kputG, kcpy, kcat, kRR, kNN, true_and, and_true, if_true, if_false, if_pos, Nat.reduceAdd, Nat.reduceEqDiff, Nat.reduceLeDiff, Nat.reduceLT, reduceIte, Prod.mk.injEq, eq_self, false_and, and_false, reduceCtorEq, Nat.reduceSub, List.reverse_cons, List.reverse_nil, List.nil_append, List.cons_append, Option.toList_some, Option.toList_none, not_true_eq_false, not_false_eq_true, hx, h7, l4, n4, hcc, hs]
    refine ⟨vp_in_nI (show c < 20 by omega) (by omega), fun hne => ?_, fun heq => ?_⟩
    · have hn : ¬ n = 0 := fun w => hne (by rw [i8 w]; rfl)
      rw [if_neg hn] at hld
      have e1 : ∀ v, kput D' (8, P, 11) c v (8, 4, 0) c = nI z := fun v => by
        have : ¬ (4 = P) := by omega
        simp [kput, hs, this]
      have e2 : ∀ v, kput D' (8, P, 11) c v (6, P, 0) 6 = D' (6, P, 0) 6 := fun v => by simp [kput]
      have e3 : ∀ v w, kput (kput D' (8, P, 11) c v) (6, P, 0) 6 w (6, P, 0) 7 = tZ τ 43 0 := fun v w => by simp [kput, q7]
      refine kwX6_load_191 hC hE ?_
      simp only [kbX6_load_191, mX6_load, kblk, kstp, kent, kpad, kget, kst1, kst2, kc2, cond_false, cond_true, kfv, kfit, kOkf, kputv, kputD, kputG, kcpy, kcat, kRR, kNN, true_and, and_true, if_true, if_false, if_pos, Nat.reduceAdd, Nat.reduceEqDiff, Nat.reduceLeDiff, Nat.reduceLT, reduceIte, Prod.mk.injEq, eq_self, false_and, and_false, reduceCtorEq, Nat.reduceSub, List.reverse_cons, List.reverse_nil, List.nil_append, List.cons_append, Option.toList_some, Option.toList_none, not_true_eq_false, not_false_eq_true, hx, h7, l4, n4, l11, n11, hcc, hs, q11, hsub, e1, e2, e3]
      refine ⟨vp_in_nI (show c < 20 by omega) (by omega), vp_in_nI (show c < 20 by omega) (by omega), vp_in_nI (show c < 20 by omega) (by omega), vp_in_nI (show c < 20 by omega) (by omega), ⟨rfl, _, rfl, ⟨?_, ?_⟩, kOff.put.trans (kOff.put.trans (kOff.put.trans i10))⟩, trivial, Nat.le_refl _, Nat.le_refl _⟩
      · have hA : mSc P (kput (kput D' (8, P, 11) c (tZ σ 4 c + nI r)) (6, P, 0) 6 (D' (6, P, 0) 6 + nI r)) τ := by
          refine mSc_put (mSc_arr i9.1 11 c _) 6 _ ?_ ?_ ?_ ?_ ?_ ?_ ?_ ?_ ?_
          · rw [if_neg (by decide)]; exact (tZ_ne (by decide)).symm
          · rw [if_neg (by decide)]; exact (tZ_ne (by decide)).symm
          · rw [if_neg (by decide)]; exact (tZ_ne (by decide)).symm
          · rw [if_neg (by decide)]; rfl
          · rw [if_neg (by decide)]; exact (tZ_ne (by decide)).symm
          · rw [if_neg (by decide)]; exact (tCold_tset (by decide) (by decide)).symm
          · rw [if_pos rfl, q6]
            refine (isum_upd (i := c) _ (show c < tC τ by rw [i2.1]; exact hc) (fun j hj => ?_)).symm
            by_cases hjc : j = c
            · subst hjc
              rw [if_pos rfl, i5]
              exact congrArg (fun x => x + nI r) zup_eq.symm
            · rw [if_neg hjc]
              exact (zup_ne2 hjc).symm
          · rw [if_neg (by decide)]; exact (tZ_ne (by decide)).symm
          · rw [if_neg (by decide)]; rfl
        rw [hld]
        refine mSc_put hA 7 _ ?_ ?_ ?_ ?_ ?_ ?_ ?_ ?_ ?_
        · rw [if_neg (by decide)]; exact tZ_ne (by decide)
        · rw [if_neg (by decide)]; exact tZ_ne (by decide)
        · rw [if_neg (by decide)]; exact tZ_ne (by decide)
        · rw [if_neg (by decide)]; rfl
        · rw [if_neg (by decide)]; exact tZ_ne (by decide)
        · rw [if_neg (by decide)]; exact tCold_tset (by decide) (by decide)
        · rw [if_neg (by decide)]; exact tTaken_tset (by decide)
        · rw [if_pos rfl, tZ_tset, zup_eq]
        · rw [if_neg (by decide)]; rfl
      · rw [hld]
        refine mArr_congr (mArr_sc (mArr_sc (mArr_put i9.2 11 c _ (by decide)) 6 _) 7 _) rfl rfl rfl rfl (fun f j _ _ hf => ?_)
        rw [tZ_ne (by omega)]
        show tZ τ f j = zup (zup (tZ τ) 4 c (tZ σ 4 c)) 4 c (tZ σ 4 c + nI r) f j
        by_cases hfj : f = 4 ∧ j = c
        · rw [hfj.1, hfj.2, zup_eq]; exact i5
        · simp only [zup, hfj, if_false]
    · have hr0 : r = 0 := by
        have := (nI_eq (by omega) (by omega)).mp heq
        omega
      have hn0 : n = 0 := by omega
      rw [if_pos hn0] at hld
      refine kwX6_load_190 hC hE ?_
      simp only [kbX6_load_190, mX6_load, kblk, kstp, kent, kpad, kget, kst1, kst2, kc2, cond_false, cond_true, kfv, kfit, kOkf, kputv, kputD, kputG, kcpy, kcat, kRR, kNN, true_and, and_true, if_true, if_false, if_pos, Nat.reduceAdd, Nat.reduceEqDiff, Nat.reduceLeDiff, Nat.reduceLT, reduceIte, Prod.mk.injEq, eq_self, false_and, and_false, reduceCtorEq, Nat.reduceSub, List.reverse_cons, List.reverse_nil, List.nil_append, List.cons_append, Option.toList_some, Option.toList_none, not_true_eq_false, not_false_eq_true]
      refine ⟨⟨rfl, _, rfl, ?_, i10⟩, trivial, Nat.le_refl _, Nat.le_refl _⟩
      rw [hld]
      refine mSt_congr i9 rfl rfl rfl rfl (fun f j _ _ => ?_)
      have h4 : tZ τ 4 c = tZ σ 4 c := by
        rw [i5, hr0]; exact Int32.add_zero _
      show tZ τ f j = zup (tZ τ) 4 c (tZ σ 4 c) f j
      rw [zup_self h4]
  -- one board: from the call of drop to the end of the inner turn
  have boardIt : ∀ (τ : KT) (n r i l g y : Nat) (D' : KI → Nat → Int32), lInv P b h c z σ D τ n r D' → l < tL σ → g < tG τ → (tQ τ l).head? = some g → tZ τ 13 g = nI l → tZ τ 10 g = nI y → 1 ≤ y → r + y ≤ z → tZ (boardT τ g c) 2 c = nI (r + y) →
      (∀ D2, lInv P b h c z σ D (boardT τ g c) (n + 1) (r + y) D2 → KW X 168 [some (kR (some (6, P, 0))), some (kI (nI c)), some (kI (nI (z - (r + y)))), some (kI 0), some (kI (nI i)), some (kI (nI l)), some (kI (nI g))] [] (km D2 G) 0 0) →
      KW X 100 [some (kR (some (6, P, 0))), some (kI (nI c)), some (kI (nI (z - r))), some (kI 1), some (kI (nI i)), some (kI (nI l)), some (kI (nI g))] [] (km D' G) 0 0 := by
    rintro τ n r i l g y D' ⟨i1, i2, i3, i4, i5, i6, i7, i8, i9, i10⟩ hl hg hhd hlz hy hy1 hyz h2c next
    have hmem : g ∈ tQ τ l := List.mem_of_head? hhd
    have hlt : l < tL τ := by rw [i2.2.1]; exact hl
    have hq := i1.qOK
    have hnd := (i1.1.2.2.2.1 l hlt).1
    have bG' := i1.1.1.2.2.1
    have hcg := nI_clamp (show g < 2 ^ 31 by omega)
    have hcl := nI_clamp (show l < 2 ^ 31 by omega)
    have h13 : tZ (held τ c (tZ σ 4 c)) 13 g = nI l := (tZ_ne (by decide)).trans hlz
    refine kwX6_load_100 hC hE ?_
    simp only [kbX6_load_100, mX6_load, kblk, kstp, kent, kpad, kget, kst1, kst2, kc2, cond_false, cond_true, kfv, kfit, kOkf, kputv, kputD, kputG, kcpy, kcat, kRR, kNN, true_and, and_true, if_true, if_false, if_pos, Nat.reduceAdd, Nat.reduceEqDiff, Nat.reduceLeDiff, Nat.reduceLT, reduceIte, Prod.mk.injEq, eq_self, false_and, and_false, reduceCtorEq, Nat.reduceSub, List.reverse_cons, List.reverse_nil, List.nil_append, List.cons_append, Option.toList_some, Option.toList_none, not_true_eq_false, not_false_eq_true]
    refine KW_callV hC (by decide +kernel) kl6_106 (by decide) ((m_drop hP i9 (σ := held τ c (tZ σ 4 c)) hq hg bG' (by omega) h13 hmem hnd (fun x hx => by have := i1.1.1.2.2.2.2 l hlt x hx; omega))) rfl rfl (Nat.le_of_ble_eq_true rfl) rfl hx (by simp [kOkL, kOk, hx]) (by simp [kOkS]) (Nat.le_of_ble_eq_true rfl) (Nat.le_of_ble_eq_true rfl) (Nat.le_of_ble_eq_true rfl) ?_
    rintro v M' ⟨rfl, D1, rfl, hm1, ho1⟩
    have hZ := tZ_boardT (c := c) hlz (show l < 100 by omega)
    have hQ := tQ_boardT (c := c) hlz (show l < 100 by omega)
    have hT : ∀ f j, tZ (takeOut (held τ c (tZ σ 4 c)) g) f j = zup (zup (tZ τ) 4 c (tZ σ 4 c)) 13 g (-1) f j := fun f j => by rw [tZ_takeOut, tZ_held]
    have hH : ∀ f j, tZ (held (boardT τ g c) c (tZ σ 4 c)) f j = zup (tZ (boardT τ g c)) 4 c (tZ σ 4 c) f j := fun f j => by rw [tZ_held]
    have hgg : g < tG (takeOut (held τ c (tZ σ 4 c)) g) := by rw [tG_takeOut]; exact hg
    have q15 : D1 (8, P, 15) g = nI y := by
      rw [(hm1.2.2.2.2.2.2.2 g hgg).1, hT, zup_ne (by decide), zup_ne (by decide)]; exact hy
    have q12 : D1 (8, P, 12) l = tZ τ 22 l := by
      rw [hm1.2.2.2.2.1 l (by omega), hT, zup_ne (by decide), zup_ne (by decide)]
    have q7 := lanesAt D1 (ho1.trans i10)
    have e15 : kput (kput D1 (8, P, 17) g 1) (8, P, 18) g (nI c) (8, P, 15) g = nI y := by simp [kput, q15]
    have e12 : kput (kput D1 (8, P, 17) g 1) (8, P, 18) g (nI c) (8, P, 12) l = tZ τ 22 l := by simp [kput, q12]
    have e7 : ∀ v, kput (kput (kput D1 (8, P, 17) g 1) (8, P, 18) g (nI c)) (8, P, 12) l v (7, 4, 0) 3 = nI (tL σ) := fun v => by simp [kput, q7]
    have hir := irem_nat (a := l + 1) (b := tL σ) (by omega) (by omega) (by omega)
    have hfree : nI (z - r) - nI y = nI (z - (r + y)) := by rw [nI_subn (by omega)]; congr 1; omega
    refine kwX6_load_106 hC hE ?_
    simp only [kbX6_load_106, mX6_load, kblk, kstp, kent, kpad, kget, kst1, kst2, kc2, cond_false, cond_true, kfv, kfit, kOkf, kputv, kputD, kputG, kcpy, kcat, kRR, kNN, true_and, and_true, if_true, if_false, if_pos, Nat.reduceAdd, Nat.reduceEqDiff, Nat.reduceLeDiff, Nat.reduceLT, reduceIte, Prod.mk.injEq, eq_self, false_and, and_false, reduceCtorEq, Nat.reduceSub, List.reverse_cons, List.reverse_nil, List.nil_append, List.cons_append, Option.toList_some, Option.toList_none, not_true_eq_false, not_false_eq_true, hx, h7, l12, l15, l17, l18, n12, n15, n17, n18, hcg, hcl, e15, e12, e7, hfree, nI_1, hir]
    refine ⟨vp_in_nI (show g < 91 by omega) (by omega), vp_in_nI (show g < 91 by omega) (by omega), vp_in_nI (show g < 91 by omega) (by omega), vp_in_nI (show l < 4 by omega) (by omega), vp_in_nI (show g < 91 by omega) (by omega), vp_in_nI (show l < 4 by omega) (by omega), nI_nz (by omega) (by omega), ?_⟩
    refine next _ ⟨i1.board hg (by rw [i2.1]; exact hc) hlt hlz i3, same_board.trans i2, ?_, h2c, ?_, by omega, hyz, fun w => absurd w (by omega), ⟨?_, ?_⟩, kOff.put.trans (kOff.put.trans (kOff.put.trans (kOff.put.trans (ho1.trans i10))))⟩
    · rw [hZ]; simp [i3]
    · rw [board_4 hlz (by omega), i5, hy, Int32.add_assoc, nI_add]
    · refine mSc_put (mSc_arr (mSc_arr (mSc_arr hm1.1 17 g 1) 18 g (nI c)) 12 l _) 2 _ ?_ ?_ ?_ ?_ ?_ ?_ ?_ ?_ ?_
      · rw [if_neg (by decide), hH, hT, zup_ne (by decide), zup_ne (by decide), zup_ne (by decide), hZ]; simp
      · rw [if_neg (by decide), hH, hT, zup_ne (by decide), zup_ne (by decide), zup_ne (by decide), hZ]; simp
      · rw [if_pos rfl, hH, zup_ne (by decide), hZ]
        simp only [Nat.reduceEqDiff, false_and, if_false, true_and, if_true, and_self]
        rw [behind_mod (by rw [i2.2.1]; exact bL) hlt, i2.2.1]
      · rw [if_neg (by decide)]
        rw [tG_held, tG_boardT, tG_takeOut, tG_held]
      · rw [if_neg (by decide), hH, hT, zup_ne (by decide), zup_ne (by decide), zup_ne (by decide), hZ]; simp
      · rw [if_neg (by decide)]
        unfold tCold
        rw [tG_held, tG_boardT, tG_takeOut, tG_held]
        refine isum_congr _ (fun j _ => ?_)
        simp only [hH, hT]
        rw [zup_ne (by decide), zup_ne (by decide), zup_ne (by decide), zup_ne (by decide), zup_ne (by decide), zup_ne (by decide), hZ, hZ]
        simp
      · rw [if_neg (by decide)]
        unfold tTaken
        rw [tC_held, tC_boardT, tC_takeOut, tC_held]
        refine isum_congr _ (fun j _ => ?_)
        simp only [hH, hT]
        rw [zup_ne (f := 13) (by decide)]
        by_cases hj : j = c
        · subst hj; rw [zup_eq, zup_eq]
        · rw [zup_ne2 hj, zup_ne2 hj, hZ]
          simp [hj]
      · rw [if_neg (by decide), hH, hT, zup_ne (by decide), zup_ne (by decide), zup_ne (by decide), hZ]; simp
      · rw [if_neg (by decide)]
        rw [tS_held, tS_boardT, tS_takeOut, tS_held]
    · have hA := mArr_sc (mArr_put (mArr_at (mArr_put hm1.2 17 g 1 (by decide)) 14 13 g (nI c) (by decide) (by rw [tZ_ne (by decide), hT, zup_eq])) 12 l (tZ τ 22 l + nI y) (by decide)) 2 (nI ((l + 1) % tL σ))
      refine mArr_congr hA ?_ ?_ ?_ ?_ (fun f j hf2 hf3 hf => ?_)
      · simp only [tZ_tset, tQ_tset, tS_tset, tC_tset, tL_tset, tG_tset, tZ_tsetQ, tQ_tsetQ, tS_tsetQ, tC_tsetQ, tL_tsetQ, tG_tsetQ, tZ_tsetS, tQ_tsetS, tS_tsetS, tC_tsetS, tL_tsetS, tG_tsetS, tZ_tMod, tQ_tMod, tS_tMod, tC_tMod, tL_tMod, tG_tMod, tZ_tcnt, tQ_tcnt, tS_tcnt, tC_tcnt, tL_tcnt, tG_tcnt]
        rw [tC_held, tC_boardT, tC_takeOut, tC_held]
      · simp only [tZ_tset, tQ_tset, tS_tset, tC_tset, tL_tset, tG_tset, tZ_tsetQ, tQ_tsetQ, tS_tsetQ, tC_tsetQ, tL_tsetQ, tG_tsetQ, tZ_tsetS, tQ_tsetS, tS_tsetS, tC_tsetS, tL_tsetS, tG_tsetS, tZ_tMod, tQ_tMod, tS_tMod, tC_tMod, tL_tMod, tG_tMod, tZ_tcnt, tQ_tcnt, tS_tcnt, tC_tcnt, tL_tcnt, tG_tcnt]
        rw [tG_held, tG_boardT, tG_takeOut, tG_held]
      · simp only [tZ_tset, tQ_tset, tS_tset, tC_tset, tL_tset, tG_tset, tZ_tsetQ, tQ_tsetQ, tS_tsetQ, tC_tsetQ, tL_tsetQ, tG_tsetQ, tZ_tsetS, tQ_tsetS, tS_tsetS, tC_tsetS, tL_tsetS, tG_tsetS, tZ_tMod, tQ_tMod, tS_tMod, tC_tMod, tL_tMod, tG_tMod, tZ_tcnt, tQ_tcnt, tS_tcnt, tC_tcnt, tL_tcnt, tG_tcnt]
        rw [tS_held, tS_boardT, tS_takeOut, tS_held]
      · simp only [tZ_tset, tQ_tset, tS_tset, tC_tset, tL_tset, tG_tset, tZ_tsetQ, tQ_tsetQ, tS_tsetQ, tC_tsetQ, tL_tsetQ, tG_tsetQ, tZ_tsetS, tQ_tsetS, tS_tsetS, tC_tsetS, tL_tsetS, tG_tsetS, tZ_tMod, tQ_tMod, tS_tMod, tC_tMod, tL_tMod, tG_tMod, tZ_tcnt, tQ_tcnt, tS_tcnt, tC_tcnt, tL_tcnt, tG_tcnt]
        rw [tQ_held, hQ, tQ_takeOut h13 (by omega), tQ_held]
      · rw [tZ_held, tZ_tset, tZ_tset, tZ_tset]
        show zup (tZ (boardT τ g c)) 4 c (tZ σ 4 c) f j = zup (zup (zup (tZ (takeOut (held τ c (tZ σ 4 c)) g)) 12 g 1) 14 g (nI c)) 22 l (tZ τ 22 l + nI y) f j
        simp only [zup, hZ, hT, hy]
        by_cases h4 : f = 4 ∧ j = c
        · obtain ⟨rfl, rfl⟩ := h4; simp
        · by_cases h14 : f = 14 ∧ j = g
          · obtain ⟨rfl, rfl⟩ := h14; simp
          · by_cases h12 : f = 12 ∧ j = g
            · obtain ⟨rfl, rfl⟩ := h12; simp
            · by_cases h13' : f = 13 ∧ j = g
              · obtain ⟨rfl, rfl⟩ := h13'; simp
              · by_cases h22 : f = 22 ∧ j = l
                · obtain ⟨rfl, rfl⟩ := h22; simp
                · have h40 : ¬ (f = 40 ∧ j = 0) := by omega
                  have h3' : ¬ (f = 3 ∧ j = c) := fun w => hf3 w.1
                  have h2' : ¬ (f = 2 ∧ j = c) := fun w => hf2 w.1
                  simp only [h4, h14, h12, h13', h22, h40, h3', h2', if_false]
  have inner : ∀ (τ : KT) (n r t : Nat) (D' : KI → Nat → Int32), lInv P b h c z σ D τ n r D' → tZ τ 40 0 = nI t → (tL σ = 0 ∨ t < tL σ) → (tNext τ (nI (z - r)) = -1 → loadT c 6 σ 0 = (τ, n)) →
      (∀ (g y : Nat) (D2 : KI → Nat → Int32), g < tG σ → tNext τ (nI (z - r)) = nI g → lInv P b h c z σ D (boardT τ g c) (n + 1) (r + y) D2 → KW X 12 [some (kR (some (6, P, 0))), some (kI (nI c)), some (kI (nI (z - (r + y)))), some (kI 0), none, none, none] [] (km D2 G) 0 0) →
      ∀ (m i : Nat), i + m = tL σ → gtb τ (nI (z - r)) m (nI ((t + i) % tL σ)) = tNext τ (nI (z - r)) →
      KW X 21 [some (kR (some (6, P, 0))), some (kI (nI c)), some (kI (nI (z - r))), some (kI 1), some (kI (nI i)), none, none] [] (km D' G) 0 0 := by
    intro τ n r t D' hI ht40 htl hstop hgo m
    obtain ⟨i1, i2, i3, i4, i5, i6, i7, i8, i9, i10⟩ := id hI
    have q7 := lanesAt D' i10
    have q2 : D' (6, P, 0) 2 = nI t := by
      rw [i9.1.2.2.1, tZ_held, zup_ne (by decide)]; exact ht40
    induction m with
    | zero =>
      intro i him hgt
      have hi : i = tL σ := by omega
      subst hi
      refine kwX6_load_21 hC hE ?_
      simp only [kbX6_load_21, mX6_load, kblk, kstp, kent, kpad, kget, kst1, kst2, kc2, cond_false, cond_true, kfv, kfit, kOkf, kputv, kputD, kputG, kcpy, kcat, kRR, kNN, true_and, and_true, if_true, if_false, if_pos, Nat.reduceAdd, Nat.reduceEqDiff, Nat.reduceLeDiff, Nat.reduceLT, reduceIte, Prod.mk.injEq, eq_self, false_and, and_false, reduceCtorEq, Nat.reduceSub, List.reverse_cons, List.reverse_nil, List.nil_append, List.cons_append, Option.toList_some, Option.toList_none, not_true_eq_false, not_false_eq_true, hx, h7, q7]
      refine ⟨fun _ => ?_, fun w => absurd (nI_le (Nat.le_refl _) (by omega)) w⟩
      refine kwX6_load_174 hC hE ?_
      simp only [kbX6_load_174, mX6_load, kblk, kstp, kent, kpad, kget, kst1, kst2, kc2, cond_false, cond_true, kfv, kfit, kOkf, kputv, kputD, kputG, kcpy, kcat, kRR, kNN, true_and, and_true, if_true, if_false, if_pos, Nat.reduceAdd, Nat.reduceEqDiff, Nat.reduceLeDiff, Nat.reduceLT, reduceIte, Prod.mk.injEq, eq_self, false_and, and_false, reduceCtorEq, Nat.reduceSub, List.reverse_cons, List.reverse_nil, List.nil_append, List.cons_append, Option.toList_some, Option.toList_none, not_true_eq_false, not_false_eq_true]
      refine kwX6_load_12 hC hE ?_
      simp only [kbX6_load_12, mX6_load, kblk, kstp, kent, kpad, kget, kst1, kst2, kc2, cond_false, cond_true, kfv, kfit, kOkf, kputv, kputD, kputG, kcpy, kcat, kRR, kNN, true_and, and_true, if_true, if_false, if_pos, Nat.reduceAdd, Nat.reduceEqDiff, Nat.reduceLeDiff, Nat.reduceLT, reduceIte, Prod.mk.injEq, eq_self, false_and, and_false, reduceCtorEq, Nat.reduceSub, List.reverse_cons, List.reverse_nil, List.nil_append, List.cons_append, Option.toList_some, Option.toList_none, not_true_eq_false, not_false_eq_true]
      refine ⟨fun _ => KW.le (by simp [kLE]) (fin τ n r D' hI (hstop hgt.symm)), fun w => absurd w (by decide)⟩
    | succ m ih =>
      intro i him hgt
      have hi : i < tL σ := by omega
      have hlt0 : (t + i) % tL σ < tL σ := Nat.mod_lt _ (by omega)
      generalize hle : (t + i) % tL σ = l at hlt0 hgt
      have hcl := nI_clamp (show l < 2 ^ 31 by omega)
      have q13 : D' (8, P, 13) l = nI (tQ τ l).length := i9.2.2.2.2.2.1 l (by omega)
      have hbeh : behind τ (nI l) = nI ((t + (i + 1)) % tL σ) := by
        rw [behind_mod (by rw [i2.2.1]; exact bL) (by rw [i2.2.1]; exact hlt0), i2.2.1, ← hle]
        congr 1
        rw [Nat.mod_add_mod, Nat.add_assoc]
      have hrem : nI t + nI i - (nI t + nI i) / nI (tL σ) * nI (tL σ) = nI l := by
        rw [nI_add, irem_nat (by omega) (by omega) (by omega), hle]
      have hqlen := i1.1.qlen (l := l) (by rw [i2.2.1]; exact hlt0)
      have hG91 := i1.1.1.2.2.1
      have next : ∀ v6, gtb τ (nI (z - r)) m (behind τ (nI l)) = tNext τ (nI (z - r)) → KW X 168 [some (kR (some (6, P, 0))), some (kI (nI c)), some (kI (nI (z - r))), some (kI 1), some (kI (nI i)), some (kI (nI l)), v6] [] (km D' G) 0 0 := by
        intro v6 hn
        rw [hbeh] at hn
        refine kwX6_load_168 hC hE ?_
        simp only [kbX6_load_168, mX6_load, kblk, kstp, kent, kpad, kget, kst1, kst2, kc2, cond_false, cond_true, kfv, kfit, kOkf, kputv, kputD, kputG, kcpy, kcat, kRR, kNN, true_and, and_true, if_true, if_false, if_pos, Nat.reduceAdd, Nat.reduceEqDiff, Nat.reduceLeDiff, Nat.reduceLT, reduceIte, Prod.mk.injEq, eq_self, false_and, and_false, reduceCtorEq, Nat.reduceSub, List.reverse_cons, List.reverse_nil, List.nil_append, List.cons_append, Option.toList_some, Option.toList_none, not_true_eq_false, not_false_eq_true, nI_1]
        exact KW.le (by simp [kLE]) (ih (i + 1) (by omega) hn)
      refine kwX6_load_21 hC hE ?_
      simp only [kbX6_load_21, mX6_load, kblk, kstp, kent, kpad, kget, kst1, kst2, kc2, cond_false, cond_true, kfv, kfit, kOkf, kputv, kputD, kputG, kcpy, kcat, kRR, kNN, true_and, and_true, if_true, if_false, if_pos, Nat.reduceAdd, Nat.reduceEqDiff, Nat.reduceLeDiff, Nat.reduceLT, reduceIte, Prod.mk.injEq, eq_self, false_and, and_false, reduceCtorEq, Nat.reduceSub, List.reverse_cons, List.reverse_nil, List.nil_append, List.cons_append, Option.toList_some, Option.toList_none, not_true_eq_false, not_false_eq_true, hx, h7, q7]
      refine ⟨fun w => absurd w (nI_ge hi (by omega)), fun _ => ?_⟩
      refine kwX6_load_33 hC hE ?_
      simp only [kbX6_load_33, mX6_load, kblk, kstp, kent, kpad, kget, kst1, kst2, kc2, cond_false, cond_true, kfv, kfit, kOkf, kputv, kputD, kputG, kcpy, kcat, kRR, kNN, true_and, and_true, if_true, if_false, if_pos, Nat.reduceAdd, Nat.reduceEqDiff, Nat.reduceLeDiff, Nat.reduceLT, reduceIte, Prod.mk.injEq, eq_self, false_and, and_false, reduceCtorEq, Nat.reduceSub, List.reverse_cons, List.reverse_nil, List.nil_append, List.cons_append, Option.toList_some, Option.toList_none, not_true_eq_false, not_false_eq_true]
      refine ⟨fun w => absurd w (by decide), fun _ => ?_⟩
      refine kwX6_load_37 hC hE ?_
      simp only [kbX6_load_37, mX6_load, kblk, kstp, kent, kpad, kget, kst1, kst2, kc2, cond_false, cond_true, kfv, kfit, kOkf, kputv, kputD, kputG, kcpy, kcat, kRR, kNN, true_and, and_true, if_true, if_false, if_pos, Nat.reduceAdd, Nat.reduceEqDiff, Nat.reduceLeDiff, Nat.reduceLT, reduceIte, Prod.mk.injEq, eq_self, false_and, and_false, reduceCtorEq, Nat.reduceSub, List.reverse_cons, List.reverse_nil, List.nil_append, List.cons_append, Option.toList_some, Option.toList_none, not_true_eq_false, not_false_eq_true, hx, h7, q7, q2, l13, n13, hrem, hcl, q13]
      refine ⟨nI_nz (by omega) (by omega), vp_in_nI (show l < 4 by omega) (by omega), fun w => ?_, fun w => ?_⟩
      · cases hq0 : tQ τ l with
        | nil => rw [hq0] at w; exact absurd rfl w
        | cons g rest =>
          have hgm : g ∈ tQ τ l := by rw [hq0]; exact List.mem_cons_self
          have hgG := i1.1.1.2.2.2.2 l (by rw [i2.2.1]; exact hlt0) g hgm
          have hg13 := (i1.1.2.2.2.1 l (by rw [i2.2.1]; exact hlt0)).2 g hgm
          have q14 : D' (8, P, 14) (91 * l) = nI g := by
            have := i9.2.2.2.2.2.2.1 l (by omega) 0 g (by show (tQ τ l)[0]? = some g; rw [hq0]; rfl)
            exact this
          have e91' : (91 : Int32) * nI l = nI (91 * l) := by rw [show (91 : Int32) = nI 91 from rfl, nI_mul]
          have c14 := nI_clamp (show 91 * l < 2 ^ 31 by omega)
          have hcg := nI_clamp (show g < 2 ^ 31 by omega)
          have q15 : D' (8, P, 15) g = tZ τ 10 g := by
            rw [(i9.2.2.2.2.2.2.2 g hgG).1, tZ_held, zup_ne (by decide)]
          simp only [gtb, hcl, hq0, List.head?_cons] at hgt
          refine kwX6_load_68 hC hE ?_
          simp only [kbX6_load_68, mX6_load, kblk, kstp, kent, kpad, kget, kst1, kst2, kc2, cond_false, cond_true, kfv, kfit, kOkf, kputv, kputD, kputG, kcpy, kcat, kRR, kNN, true_and, and_true, if_true, if_false, if_pos, Nat.reduceAdd, Nat.reduceEqDiff, Nat.reduceLeDiff, Nat.reduceLT, reduceIte, Prod.mk.injEq, eq_self, false_and, and_false, reduceCtorEq, Nat.reduceSub, List.reverse_cons, List.reverse_nil, List.nil_append, List.cons_append, Option.toList_some, Option.toList_none, not_true_eq_false, not_false_eq_true, hx, l14, n14, e91', c14, q14]
          refine ⟨vp_in_nI (show 91 * l < 364 by omega) (by omega), ?_⟩
          refine kwX6_load_78 hC hE ?_
          simp only [kbX6_load_78, mX6_load, kblk, kstp, kent, kpad, kget, kst1, kst2, kc2, cond_false, cond_true, kfv, kfit, kOkf, kputv, kputD, kputG, kcpy, kcat, kRR, kNN, true_and, and_true, if_true, if_false, if_pos, Nat.reduceAdd, Nat.reduceEqDiff, Nat.reduceLeDiff, Nat.reduceLT, reduceIte, Prod.mk.injEq, eq_self, false_and, and_false, reduceCtorEq, Nat.reduceSub, List.reverse_cons, List.reverse_nil, List.nil_append, List.cons_append, Option.toList_some, Option.toList_none, not_true_eq_false, not_false_eq_true]
          refine ⟨fun w => absurd w (nI_m1 (by omega)), fun _ => ?_⟩
          refine kwX6_load_86 hC hE ?_
          simp only [kbX6_load_86, mX6_load, kblk, kstp, kent, kpad, kget, kst1, kst2, kc2, cond_false, cond_true, kfv, kfit, kOkf, kputv, kputD, kputG, kcpy, kcat, kRR, kNN, true_and, and_true, if_true, if_false, if_pos, Nat.reduceAdd, Nat.reduceEqDiff, Nat.reduceLeDiff, Nat.reduceLT, reduceIte, Prod.mk.injEq, eq_self, false_and, and_false, reduceCtorEq, Nat.reduceSub, List.reverse_cons, List.reverse_nil, List.nil_append, List.cons_append, Option.toList_some, Option.toList_none, not_true_eq_false, not_false_eq_true, hx, l15, n15, hcg, q15]
          refine ⟨vp_in_nI (show g < 91 by omega) (by omega), fun hle' => ?_, fun hgt' => ?_⟩
          · rw [if_pos hle'] at hgt
            have hcτ : c < tC τ := by rw [i2.1]; exact hc
            have hz0 : tZ τ 0 c = nI z := (i2.2.2.2 0 c (by decide)).trans z3
            have hs' : tZ τ 10 g ≤ tZ τ 0 c - tZ τ 2 c := by
              rw [hz0, i4, nI_subn i7]; exact hle'
            obtain ⟨y, y1, y2, y3, y4⟩ := load_fit i1 hcτ i4 hz0 i7 z2 hgG (by rw [i2.2.1]; exact hlt0) hg13 hs'
            refine boardIt τ n r i l g y D' hI hlt0 hgG (by rw [hq0]; rfl) hg13 y2 y1 y3 y4 (fun D2 h2 => ?_)
            have q7' := lanesAt D2 h2.2.2.2.2.2.2.2.2.2
            refine kwX6_load_168 hC hE ?_
            simp only [kbX6_load_168, mX6_load, kblk, kstp, kent, kpad, kget, kst1, kst2, kc2, cond_false, cond_true, kfv, kfit, kOkf, kputv, kputD, kputG, kcpy, kcat, kRR, kNN, true_and, and_true, if_true, if_false, if_pos, Nat.reduceAdd, Nat.reduceEqDiff, Nat.reduceLeDiff, Nat.reduceLT, reduceIte, Prod.mk.injEq, eq_self, false_and, and_false, reduceCtorEq, Nat.reduceSub, List.reverse_cons, List.reverse_nil, List.nil_append, List.cons_append, Option.toList_some, Option.toList_none, not_true_eq_false, not_false_eq_true, nI_1]
            have out : KW X 174 [some (kR (some (6, P, 0))), some (kI (nI c)), some (kI (nI (z - (r + y)))), some (kI 0), some (kI (nI (i + 1))), some (kI (nI l)), some (kI (nI g))] [] (km D2 G) 0 0 := by
              refine kwX6_load_174 hC hE ?_
              simp only [kbX6_load_174, mX6_load, kblk, kstp, kent, kpad, kget, kst1, kst2, kc2, cond_false, cond_true, kfv, kfit, kOkf, kputv, kputD, kputG, kcpy, kcat, kRR, kNN, true_and, and_true, if_true, if_false, if_pos, Nat.reduceAdd, Nat.reduceEqDiff, Nat.reduceLeDiff, Nat.reduceLT, reduceIte, Prod.mk.injEq, eq_self, false_and, and_false, reduceCtorEq, Nat.reduceSub, List.reverse_cons, List.reverse_nil, List.nil_append, List.cons_append, Option.toList_some, Option.toList_none, not_true_eq_false, not_false_eq_true]
              exact KW.le (by simp [kLE]) (hgo g y D2 (by rw [← i2.2.2.1]; exact hgG) hgt.symm h2)
            refine kwX6_load_21 hC hE ?_
            simp only [kbX6_load_21, mX6_load, kblk, kstp, kent, kpad, kget, kst1, kst2, kc2, cond_false, cond_true, kfv, kfit, kOkf, kputv, kputD, kputG, kcpy, kcat, kRR, kNN, true_and, and_true, if_true, if_false, if_pos, Nat.reduceAdd, Nat.reduceEqDiff, Nat.reduceLeDiff, Nat.reduceLT, reduceIte, Prod.mk.injEq, eq_self, false_and, and_false, reduceCtorEq, Nat.reduceSub, List.reverse_cons, List.reverse_nil, List.nil_append, List.cons_append, Option.toList_some, Option.toList_none, not_true_eq_false, not_false_eq_true, hx, h7, q7']
            refine ⟨fun _ => out, fun _ => ?_⟩
            refine kwX6_load_33 hC hE ?_
            simp only [kbX6_load_33, mX6_load, kblk, kstp, kent, kpad, kget, kst1, kst2, kc2, cond_false, cond_true, kfv, kfit, kOkf, kputv, kputD, kputG, kcpy, kcat, kRR, kNN, true_and, and_true, if_true, if_false, if_pos, Nat.reduceAdd, Nat.reduceEqDiff, Nat.reduceLeDiff, Nat.reduceLT, reduceIte, Prod.mk.injEq, eq_self, false_and, and_false, reduceCtorEq, Nat.reduceSub, List.reverse_cons, List.reverse_nil, List.nil_append, List.cons_append, Option.toList_some, Option.toList_none, not_true_eq_false, not_false_eq_true]
            exact ⟨fun _ => out, fun w => w.elim⟩
          · rw [if_neg hgt'] at hgt
            refine kwX6_load_97 hC hE ?_
            simp only [kbX6_load_97, mX6_load, kblk, kstp, kent, kpad, kget, kst1, kst2, kc2, cond_false, cond_true, kfv, kfit, kOkf, kputv, kputD, kputG, kcpy, kcat, kRR, kNN, true_and, and_true, if_true, if_false, if_pos, Nat.reduceAdd, Nat.reduceEqDiff, Nat.reduceLeDiff, Nat.reduceLT, reduceIte, Prod.mk.injEq, eq_self, false_and, and_false, reduceCtorEq, Nat.reduceSub, List.reverse_cons, List.reverse_nil, List.nil_append, List.cons_append, Option.toList_some, Option.toList_none, not_true_eq_false, not_false_eq_true]
            exact next _ hgt
      · have hq0 : tQ τ l = [] := by
          have := (nI_eq (b := 0) (by omega) (by decide)).mp w
          exact List.length_eq_zero_iff.mp this
        simp only [gtb, hcl, hq0, List.head?_nil] at hgt
        refine kwX6_load_64 hC hE ?_
        simp only [kbX6_load_64, mX6_load, kblk, kstp, kent, kpad, kget, kst1, kst2, kc2, cond_false, cond_true, kfv, kfit, kOkf, kputv, kputD, kputG, kcpy, kcat, kRR, kNN, true_and, and_true, if_true, if_false, if_pos, Nat.reduceAdd, Nat.reduceEqDiff, Nat.reduceLeDiff, Nat.reduceLT, reduceIte, Prod.mk.injEq, eq_self, false_and, and_false, reduceCtorEq, Nat.reduceSub, List.reverse_cons, List.reverse_nil, List.nil_append, List.cons_append, Option.toList_some, Option.toList_none, not_true_eq_false, not_false_eq_true]
        refine kwX6_load_78 hC hE ?_
        simp only [kbX6_load_78, mX6_load, kblk, kstp, kent, kpad, kget, kst1, kst2, kc2, cond_false, cond_true, kfv, kfit, kOkf, kputv, kputD, kputG, kcpy, kcat, kRR, kNN, true_and, and_true, if_true, if_false, if_pos, Nat.reduceAdd, Nat.reduceEqDiff, Nat.reduceLeDiff, Nat.reduceLT, reduceIte, Prod.mk.injEq, eq_self, false_and, and_false, reduceCtorEq, Nat.reduceSub, List.reverse_cons, List.reverse_nil, List.nil_append, List.cons_append, Option.toList_some, Option.toList_none, not_true_eq_false, not_false_eq_true]
        refine ⟨fun _ => next _ hgt, fun w => w.elim⟩
  have enter : ∀ (n r : Nat) (τ : KT) (D' : KI → Nat → Int32), lInv P b h c z σ D τ n r D' → (tNext τ (nI (z - r)) = -1 → loadT c 6 σ 0 = (τ, n)) →
      (∀ (g y : Nat) (D2 : KI → Nat → Int32), g < tG σ → tNext τ (nI (z - r)) = nI g → lInv P b h c z σ D (boardT τ g c) (n + 1) (r + y) D2 → KW X 12 [some (kR (some (6, P, 0))), some (kI (nI c)), some (kI (nI (z - (r + y)))), some (kI 0), none, none, none] [] (km D2 G) 0 0) →
      KW X 12 [some (kR (some (6, P, 0))), some (kI (nI c)), some (kI (nI (z - r))), some (kI 0), none, none, none] [] (km D' G) 0 0 := by
    intro n r τ D' hI hstop hgo
    obtain ⟨i1, i2, -⟩ := id hI
    obtain ⟨t, ht, ht2⟩ := i1.1.2.1
    have ht3 : tL σ = 0 ∨ t < tL σ := by
      rcases ht2 with w | ⟨-, w⟩
      · exact Or.inr (by rw [← i2.2.1]; exact w)
      · exact Or.inl (by rw [← i2.2.1]; exact w)
    refine kwX6_load_12 hC hE ?_
    simp only [kbX6_load_12, mX6_load, kblk, kstp, kent, kpad, kget, kst1, kst2, kc2, cond_false, cond_true, kfv, kfit, kOkf, kputv, kputD, kputG, kcpy, kcat, kRR, kNN, true_and, and_true, if_true, if_false, if_pos, Nat.reduceAdd, Nat.reduceEqDiff, Nat.reduceLeDiff, Nat.reduceLT, reduceIte, Prod.mk.injEq, eq_self, false_and, and_false, reduceCtorEq, Nat.reduceSub, List.reverse_cons, List.reverse_nil, List.nil_append, List.cons_append, Option.toList_some, Option.toList_none, not_true_eq_false, not_false_eq_true]
    refine ⟨fun w => w.elim, fun _ => ?_⟩
    refine kwX6_load_16 hC hE ?_
    simp only [kbX6_load_16, mX6_load, kblk, kstp, kent, kpad, kget, kst1, kst2, kc2, cond_false, cond_true, kfv, kfit, kOkf, kputv, kputD, kputG, kcpy, kcat, kRR, kNN, true_and, and_true, if_true, if_false, if_pos, Nat.reduceAdd, Nat.reduceEqDiff, Nat.reduceLeDiff, Nat.reduceLT, reduceIte, Prod.mk.injEq, eq_self, false_and, and_false, reduceCtorEq, Nat.reduceSub, List.reverse_cons, List.reverse_nil, List.nil_append, List.cons_append, Option.toList_some, Option.toList_none, not_true_eq_false, not_false_eq_true]
    refine inner τ n r t D' hI ht ht3 hstop hgo (tL σ) 0 (by omega) ?_
    unfold tNext
    rw [i2.2.1, ht]
    rcases ht3 with w | w
    · rw [w]; rfl
    · rw [Nat.add_zero, Nat.mod_eq_of_lt w]
  have outer : ∀ (k n r : Nat) (τ : KT) (D' : KI → Nat → Int32), n + k = 6 → lInv P b h c z σ D τ n r D' → loadT c k τ n = loadT c 6 σ 0 → KW X 12 [some (kR (some (6, P, 0))), some (kI (nI c)), some (kI (nI (z - r))), some (kI 0), none, none, none] [] (km D' G) 0 0 := by
    intro k
    induction k with
    | zero =>
      intro n r τ D' hn hI he
      obtain ⟨i1, i2, i3, i4, i5, i6, i7, i8, i9, i10⟩ := id hI
      refine enter n r τ D' hI (fun _ => he.symm) (fun g y D2 hg hgn _ => ?_)
      have h0 : z - r = 0 := by omega
      rw [h0, next_full i1 (by decide)] at hgn
      exact absurd hgn.symm (nI_m1 (by omega))
    | succ k ih =>
      intro n r τ D' hn hI he
      obtain ⟨i1, i2, i3, i4, i5, i6, i7, i8, i9, i10⟩ := id hI
      have hz0 : tZ τ 0 c = nI z := (i2.2.2.2 0 c (by decide)).trans z3
      have hs : tZ τ 0 c - tZ τ 2 c = nI (z - r) := by rw [hz0, i4, nI_subn i7]
      refine enter n r τ D' hI (fun w => ?_) (fun g y D2 hg hgn h2 => ih (n + 1) (r + y) _ D2 (by omega) h2 ?_)
      · rw [← he]; exact loadT_stop (by rw [hs]; exact w)
      · rw [← he]; exact (loadT_go (by rw [hs]; exact hgn) (by omega)).symm
  have hs0 := seatsAt D kOff.refl
  refine kwX6_load_0 hC hE ?_
  simp only [kbX6_load_0, mX6_load, kblk, kstp, kent, kpad, kget, kst1, kst2, kc2, cond_false, cond_true, kfv, kfit, kOkf, kputv, kputD, kputG, kcpy, kcat, kRR, kNN, true_and, and_true, if_true, if_false, if_pos, Nat.reduceAdd, Nat.reduceEqDiff, Nat.reduceLeDiff, Nat.reduceLT, reduceIte, Prod.mk.injEq, eq_self, false_and, and_false, reduceCtorEq, Nat.reduceSub, List.reverse_cons, List.reverse_nil, List.nil_append, List.cons_append, Option.toList_some, Option.toList_none, not_true_eq_false, not_false_eq_true, hx, h7, l4, n4, hcc, hs0]
  refine ⟨vp_in_nI (show c < 20 by omega) (by omega), ?_⟩
  refine KW.le (by simp [kLE]) (outer 6 0 0 σ D rfl ⟨hw.weak (Nat.zero_le 1), kSame.refl, hp, wf_empty0 hw hc hp, (Int32.add_zero _).symm, Nat.le_refl _, Nat.zero_le _, fun _ => rfl, mSt_congr hm rfl rfl rfl rfl (fun f j _ _ => ?_), kOff.refl⟩ rfl)
  rw [tZ_held, zup_self rfl]
end MLOAD

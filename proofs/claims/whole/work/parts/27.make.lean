/-! Lift: what is made. -/
def startT (σ : KT) (g : Nat) (a b c : Int32) : KT := tset (tset (tset (tset (tset (tset (tset (tset σ 10 g a) 11 g b) 12 g 0) 13 g (-1)) 14 g (-1)) 15 g c) 16 g (-1)) 17 g 0
def mkChair (σ : KT) (s : Int32) : KT := tcnt (tsetS (tset σ 0 (tC σ) s) (tS σ ++ [tC σ])) (tC σ + 1) (tL σ) (tG σ)
def mkLane (σ : KT) : KT := tcnt σ (tC σ) (tL σ + 1) (tG σ)
def mkGroup (σ : KT) (l : Nat) (a b : Int32) : KT := tcnt (putT (startT σ (tG σ) a b (tZ σ 41 0)) (tG σ) l) (tC σ) (tL σ) (tG σ + 1)
section MAKE
variable {D : KI → Nat → Int32} {G : KI → Nat → Int64} {L : Nat} {σ : KT}
theorem s_start (hL : L < 2) (hr : kRep L D σ) {g : Nat} (hg : g < 91) (a b c : Int32) : SpQ mX1_start 0 0 [kR (some (1, L, g)), kI a, kI b, kI c] (km D G) (fun v M' => v = none ∧ kTo L D G (startT σ g a b c) M') := by
  refine SpQ_of (own := 1) (ini := false) (by decide +kernel) rfl (by decide) (Nat.le_of_ble_eq_true rfl) ?_
  intro X hC hE hL0
  have hlg : kLive (1, L, g) := ⟨hL, hg⟩
  refine kwX1_start_0 hC hE ?_
  simp only [kbX1_start_0, mX1_start, kblk, kstp, kent, kpad, kget, kst1, kst2, kc2, cond_false, cond_true, kfv, kfit, kOkf, kputv, kputD, kputG, kcpy, kcat, kRR, kNN, true_and, and_true, if_true, if_false, if_pos, Nat.reduceAdd, Nat.reduceEqDiff, Nat.reduceLeDiff, Nat.reduceLT, reduceIte, Prod.mk.injEq, eq_self, false_and, and_false, reduceCtorEq, Nat.reduceSub, List.reverse_cons, List.reverse_nil, List.nil_append, List.cons_append, Option.toList_some, Option.toList_none, not_true_eq_false, not_false_eq_true, hlg]
  refine ⟨⟨rfl, _, rfl, ?_, kOff.put.trans (kOff.put.trans (kOff.put.trans (kOff.put.trans (kOff.put.trans (kOff.put.trans (kOff.put.trans kOff.put))))))⟩, trivial, Nat.le_refl _, Nat.le_refl _⟩
  exact rep_group (rep_group (rep_group (rep_group (rep_group (rep_group (rep_group (rep_group hr g 0 a (by decide)) g 1 b (by decide)) g 2 0 (by decide)) g 3 (-1) (by decide)) g 4 (-1) (by decide)) g 5 c (by decide)) g 6 (-1) (by decide)) g 7 0 (by decide)
theorem s_makeChair (hr : kRep 0 D σ) (hs : kS σ) (hlt : tC σ < 20) (s : Int32) : SpQ mX3_makeChair 0 0 [kR (some (3, 0, 0)), kI s] (km D G) (fun v M' => v = some (kI (nI (tC σ))) ∧ kTo 0 D G (mkChair σ s) M') := by
  refine SpQ_of (own := 3) (ini := false) (by decide +kernel) rfl (by decide) (Nat.le_of_ble_eq_true rfl) ?_
  intro X hC hE hL0
  have hlive : kLive (3, 0, 0) := ⟨by decide, rfl⟩
  have hlive9 : kLive (9, 0, 0) := ⟨by decide, rfl⟩
  have hlv4 : kLive (4, 0, 0) := ⟨by decide, by decide⟩
  have hlc : kLive (0, 0, tC σ) := ⟨by decide, hlt⟩
  have c5 := hr.old.1.1
  have hlen := hs.slen
  refine kwX3_makeChair_0 hC hE ?_
  simp only [kbX3_makeChair_0, mX3_makeChair, kblk, kstp, kent, kpad, kget, kst1, kst2, kc2, cond_false, cond_true, kfv, kfit, kOkf, kputv, kputD, kputG, kcpy, kcat, kRR, kNN, true_and, and_true, if_true, if_false, if_pos, Nat.reduceAdd, Nat.reduceEqDiff, Nat.reduceLeDiff, Nat.reduceLT, reduceIte, Prod.mk.injEq, eq_self, false_and, and_false, reduceCtorEq, Nat.reduceSub, List.reverse_cons, List.reverse_nil, List.nil_append, List.cons_append, Option.toList_some, Option.toList_none, not_true_eq_false, not_false_eq_true, hlive, hlive9, c5, nI_clamp (show tC σ < 2 ^ 31 by omega), hlt, hlc, true_or, or_true]
  refine ⟨vp_in_nI hlt (by omega), ?_⟩
  have hr1 := rep_chair hr (tC σ) 0 s (by decide)
  have hrow1 := hr1.old.2.2.2.2.2.2.1
  refine KW_callV hC (by decide +kernel) kl3_95 (by decide) ((s_Row_append (n := tC σ) (by decide) (by omega) hrow1 (by rw [kN_shed1 (by decide), tS_tset]; omega) (by rw [kN_shed1 (by decide)]; decide))) rfl rfl (Nat.le_of_ble_eq_true rfl) rfl hlv4 (by simp [kOkL, kOk, hlive]) (by simp [kOkS]) (Nat.le_of_ble_eq_true rfl) (Nat.le_of_ble_eq_true rfl) (Nat.le_of_ble_eq_true rfl) ?_
  rintro v M' ⟨rfl, D', rfl, hr', ho⟩
  have hr2 := rep_shed hr1 ho hr'
  have d5 : D' (3, 0, 0) 5 = nI (tC σ) := hr2.old.1.1
  refine kwX3_makeChair_23 hC hE ?_
  simp only [kbX3_makeChair_23, mX3_makeChair, kblk, kstp, kent, kpad, kget, kst1, kst2, kc2, cond_false, cond_true, kfv, kfit, kOkf, kputv, kputD, kputG, kcpy, kcat, kRR, kNN, true_and, and_true, if_true, if_false, if_pos, Nat.reduceAdd, Nat.reduceEqDiff, Nat.reduceLeDiff, Nat.reduceLT, reduceIte, Prod.mk.injEq, eq_self, false_and, and_false, reduceCtorEq, Nat.reduceSub, List.reverse_cons, List.reverse_nil, List.nil_append, List.cons_append, Option.toList_some, Option.toList_none, not_true_eq_false, not_false_eq_true, hlive, d5, nI_1]
  refine ⟨⟨rfl, _, rfl, ?_, kOff.put.trans ((kOff.row ho).trans kOff.put)⟩, trivial, Nat.le_refl _, Nat.le_refl _⟩
  exact rep_cnt hr2 5 (tC σ + 1) (tC σ + 1) (tL σ) (tG σ) rfl (by decide) ⟨by omega, hr.1.2.1, hr.1.2.2⟩
theorem s_makeLane (hr : kRep 0 D σ) (hlt : tL σ < 4) : SpQ mX3_makeLane 0 0 [kR (some (3, 0, 0))] (km D G) (fun v M' => v = some (kI (nI (tL σ))) ∧ kTo 0 D G (mkLane σ) M') := by
  refine SpQ_of (own := 3) (ini := false) (by decide +kernel) rfl (by decide) (Nat.le_of_ble_eq_true rfl) ?_
  intro X hC hE hL0
  have hlive : kLive (3, 0, 0) := ⟨by decide, rfl⟩
  have c6 := hr.old.1.2.1
  refine kwX3_makeLane_0 hC hE ?_
  simp only [kbX3_makeLane_0, mX3_makeLane, kblk, kstp, kent, kpad, kget, kst1, kst2, kc2, cond_false, cond_true, kfv, kfit, kOkf, kputv, kputD, kputG, kcpy, kcat, kRR, kNN, true_and, and_true, if_true, if_false, if_pos, Nat.reduceAdd, Nat.reduceEqDiff, Nat.reduceLeDiff, Nat.reduceLT, reduceIte, Prod.mk.injEq, eq_self, false_and, and_false, reduceCtorEq, Nat.reduceSub, List.reverse_cons, List.reverse_nil, List.nil_append, List.cons_append, Option.toList_some, Option.toList_none, not_true_eq_false, not_false_eq_true, hlive, c6, nI_1]
  exact ⟨⟨rfl, _, rfl, rep_cnt hr 6 (tL σ + 1) (tC σ) (tL σ + 1) (tG σ) rfl (by decide) ⟨hr.1.1, by omega, hr.1.2.2⟩, kOff.put⟩, trivial, Nat.le_refl _, Nat.le_refl _⟩
theorem s_makeGroup (hr : kRep 0 D σ) (hs : kS σ) (hlt : tG σ < 91) {l : Nat} (hl : l < tL σ) (a b : Int32) : SpQ mX3_makeGroup 0 0 [kR (some (3, 0, 0)), kI (nI l), kI a, kI b] (km D G) (fun v M' => v = some (kI (nI (tG σ))) ∧ kTo 0 D G (mkGroup σ l a b) M') := by
  refine SpQ_of (own := 3) (ini := false) (by decide +kernel) rfl (by decide) (Nat.le_of_ble_eq_true rfl) ?_
  intro X hC hE hL0
  have hlive : kLive (3, 0, 0) := ⟨by decide, rfl⟩
  have hlive10 : kLive (10, 0, 0) := ⟨by decide, rfl⟩
  have hlg : kLive (1, 0, tG σ) := ⟨by decide, hlt⟩
  have c7 := hr.old.1.2.2
  have h11 := hr.old.2.1 11 (by decide) (by decide)
  have hql := hs.qlen hl
  refine kwX3_makeGroup_0 hC hE ?_
  simp only [kbX3_makeGroup_0, mX3_makeGroup, kblk, kstp, kent, kpad, kget, kst1, kst2, kc2, cond_false, cond_true, kfv, kfit, kOkf, kputv, kputD, kputG, kcpy, kcat, kRR, kNN, true_and, and_true, if_true, if_false, if_pos, Nat.reduceAdd, Nat.reduceEqDiff, Nat.reduceLeDiff, Nat.reduceLT, reduceIte, Prod.mk.injEq, eq_self, false_and, and_false, reduceCtorEq, Nat.reduceSub, List.reverse_cons, List.reverse_nil, List.nil_append, List.cons_append, Option.toList_some, Option.toList_none, not_true_eq_false, not_false_eq_true, hlive, hlive10, c7, h11, nI_clamp (show tG σ < 2 ^ 31 by omega), hlt, hlg, true_or, or_true]
  refine ⟨vp_in_nI hlt (by omega), ?_⟩
  refine KW_callV hC (by decide +kernel) kl3_98 (by decide) ((s_start (by decide) hr hlt a b (tZ σ 41 0))) rfl rfl (Nat.le_of_ble_eq_true rfl) rfl hlg (by simp [kOkL, kOk, hlive]) (by simp [kOkS]) (Nat.le_of_ble_eq_true rfl) (Nat.le_of_ble_eq_true rfl) (Nat.le_of_ble_eq_true rfl) ?_
  rintro v M' ⟨rfl, D1, rfl, hr1, ho1⟩
  refine kwX3_makeGroup_22 hC hE ?_
  simp only [kbX3_makeGroup_22, mX3_makeGroup, kblk, kstp, kent, kpad, kget, kst1, kst2, kc2, cond_false, cond_true, kfv, kfit, kOkf, kputv, kputD, kputG, kcpy, kcat, kRR, kNN, true_and, and_true, if_true, if_false, if_pos, Nat.reduceAdd, Nat.reduceEqDiff, Nat.reduceLeDiff, Nat.reduceLT, reduceIte, Prod.mk.injEq, eq_self, false_and, and_false, reduceCtorEq, Nat.reduceSub, List.reverse_cons, List.reverse_nil, List.nil_append, List.cons_append, Option.toList_some, Option.toList_none, not_true_eq_false, not_false_eq_true]
  refine KW_callV hC (by decide +kernel) kl3_102 (by decide) ((s_putInto (g := tG σ) (l := l) (by decide) hr1 hlt hl (by simp only [startT, tZ_tset, tQ_tset, tS_tset, tC_tset, tL_tset, tG_tset, tZ_tsetQ, tQ_tsetQ, tS_tsetQ, tC_tsetQ, tL_tsetQ, tG_tsetQ, tZ_tsetS, tQ_tsetS, tS_tsetS, tC_tsetS, tL_tsetS, tG_tsetS, tZ_tMod, tQ_tMod, tS_tMod, tC_tMod, tL_tMod, tG_tMod, tZ_tcnt, tQ_tcnt, tS_tcnt, tC_tcnt, tL_tcnt, tG_tcnt]; omega))) rfl rfl (Nat.le_of_ble_eq_true rfl) rfl hlive (by simp [kOkL, kOk, hlive]) (by simp [kOkS]) (Nat.le_of_ble_eq_true rfl) (Nat.le_of_ble_eq_true rfl) (Nat.le_of_ble_eq_true rfl) ?_
  rintro v M' ⟨rfl, D2, rfl, hr2, ho2⟩
  have d7 : D2 (3, 0, 0) 7 = nI (tG σ) := hr2.old.1.2.2
  refine kwX3_makeGroup_29 hC hE ?_
  simp only [kbX3_makeGroup_29, mX3_makeGroup, kblk, kstp, kent, kpad, kget, kst1, kst2, kc2, cond_false, cond_true, kfv, kfit, kOkf, kputv, kputD, kputG, kcpy, kcat, kRR, kNN, true_and, and_true, if_true, if_false, if_pos, Nat.reduceAdd, Nat.reduceEqDiff, Nat.reduceLeDiff, Nat.reduceLT, reduceIte, Prod.mk.injEq, eq_self, false_and, and_false, reduceCtorEq, Nat.reduceSub, List.reverse_cons, List.reverse_nil, List.nil_append, List.cons_append, Option.toList_some, Option.toList_none, not_true_eq_false, not_false_eq_true, hlive, d7, nI_1]
  refine ⟨⟨rfl, _, rfl, ?_, kOff.put.trans (ho2.trans ho1)⟩, trivial, Nat.le_refl _, Nat.le_refl _⟩
  exact rep_cnt hr2 7 (tG σ + 1) (tC σ) (tL σ) (tG σ + 1) rfl (by decide) ⟨hr.1.1, hr.1.2.1, by omega⟩
theorem kS.newLane {σ : KT} (h : kS σ) (hlt : tL σ < 4) (hq : tQ σ (tL σ) = []) : kS (mkLane σ) := by
  obtain ⟨hb, ⟨t, ht, ht2⟩, h4, h5, h6, h7⟩ := h
  have key : ∀ l, l < tL σ + 1 → l < tL σ ∨ l = tL σ := fun l hl => by omega
  simp only [kS, kTurn, kB, mkLane, tZ_tset, tQ_tset, tS_tset, tC_tset, tL_tset, tG_tset, tZ_tsetQ, tQ_tsetQ, tS_tsetQ, tC_tsetQ, tL_tsetQ, tG_tsetQ, tZ_tsetS, tQ_tsetS, tS_tsetS, tC_tsetS, tL_tsetS, tG_tsetS, tZ_tMod, tQ_tMod, tS_tMod, tC_tMod, tL_tMod, tG_tMod, tZ_tcnt, tQ_tcnt, tS_tcnt, tC_tcnt, tL_tcnt, tG_tcnt]
  refine ⟨⟨hb.1, by omega, hb.2.2.1, hb.2.2.2.1, fun l hl x hx => ?_⟩, ⟨t, ht, Or.inl (by omega)⟩, fun g hg => ?_, fun l hl => ?_, h6, h7⟩
  · rcases key l hl with h | rfl
    · exact hb.2.2.2.2 l h x hx
    · rw [hq] at hx; simp at hx
  · rcases h4 g hg with h | ⟨l, hl, h⟩
    · exact Or.inl h
    · exact Or.inr ⟨l, by omega, h⟩
  · rcases key l hl with h | rfl
    · exact h5 l h
    · rw [hq]; simp
theorem kS.newChair {σ : KT} (h : kS σ) (hlt : tC σ < 20) (hp : tZ σ 1 (tC σ) = -1) (s : Int32) : kS (mkChair σ s) := by
  obtain ⟨hb, ⟨t, ht, ht2⟩, h4, h5, h6, h7⟩ := h
  simp only [kS, kTurn, kB, mkChair, tZ_tset, tQ_tset, tS_tset, tC_tset, tL_tset, tG_tset, tZ_tsetQ, tQ_tsetQ, tS_tsetQ, tC_tsetQ, tL_tsetQ, tG_tsetQ, tZ_tsetS, tQ_tsetS, tS_tsetS, tC_tsetS, tL_tsetS, tG_tsetS, tZ_tMod, tQ_tMod, tS_tMod, tC_tMod, tL_tMod, tG_tMod, tZ_tcnt, tQ_tcnt, tS_tcnt, tC_tcnt, tL_tcnt, tG_tcnt]
  refine ⟨⟨by omega, hb.2.1, hb.2.2.1, fun x hx => ?_, hb.2.2.2.2⟩, ⟨t, by rw [zup_ne (by decide)]; exact ht, ht2⟩, fun g hg => by rw [zup_ne (by decide)]; exact h4 g hg, fun l hl => ⟨(h5 l hl).1, fun g hg => by rw [zup_ne (by decide)]; exact (h5 l hl).2 g hg⟩, ?_, fun x hx => ?_⟩
  · rcases List.mem_append.mp hx with h8 | h8
    · have := hb.2.2.2.1 x h8; omega
    · have : x = tC σ := by simpa using h8
      omega
  · rw [List.nodup_append]
    refine ⟨h6, by simp, fun x hx y hy => ?_⟩
    have : y = tC σ := by simpa using hy
    have := hb.2.2.2.1 x hx
    omega
  · rw [zup_ne (by decide)]
    rcases List.mem_append.mp hx with h8 | h8
    · exact h7 x h8
    · have : x = tC σ := by simpa using h8
      rw [this]; exact hp
theorem kS.newGroup {σ : KT} (h : kS σ) (hlt : tG σ < 91) {l : Nat} (hl : l < tL σ) (a b : Int32) : kS (mkGroup σ l a b) := by
  obtain ⟨hb, ⟨t, ht, ht2⟩, h4, h5, h6, h7⟩ := h
  have hZ : tZ (mkGroup σ l a b) = zup (tZ (startT σ (tG σ) a b (tZ σ 41 0))) 13 (tG σ) (nI l) := rfl
  have z13 : ∀ x, x ≠ tG σ → tZ (mkGroup σ l a b) 13 x = tZ σ 13 x := fun x hx => by
    rw [hZ, zup_ne2 hx]
    simp [startT, tZ_tset, tQ_tset, tS_tset, tC_tset, tL_tset, tG_tset, tZ_tsetQ, tQ_tsetQ, tS_tsetQ, tC_tsetQ, tL_tsetQ, tG_tsetQ, tZ_tsetS, tQ_tsetS, tS_tsetS, tC_tsetS, tL_tsetS, tG_tsetS, tZ_tMod, tQ_tMod, tS_tMod, tC_tMod, tL_tMod, tG_tMod, tZ_tcnt, tQ_tcnt, tS_tcnt, tC_tcnt, tL_tcnt, tG_tcnt, zup, hx]
  have z1 : ∀ f x, f < 10 ∨ 17 < f → tZ (mkGroup σ l a b) f x = tZ σ f x := fun f x hf => by
    rw [hZ, zup_ne (by omega)]
    simp only [startT, tZ_tset, tQ_tset, tS_tset, tC_tset, tL_tset, tG_tset, tZ_tsetQ, tQ_tsetQ, tS_tsetQ, tC_tsetQ, tL_tsetQ, tG_tsetQ, tZ_tsetS, tQ_tsetS, tS_tsetS, tC_tsetS, tL_tsetS, tG_tsetS, tZ_tMod, tQ_tMod, tS_tMod, tC_tMod, tL_tMod, tG_tMod, tZ_tcnt, tQ_tcnt, tS_tcnt, tC_tcnt, tL_tcnt, tG_tcnt]
    rw [zup_ne (by omega), zup_ne (by omega), zup_ne (by omega), zup_ne (by omega), zup_ne (by omega), zup_ne (by omega), zup_ne (by omega), zup_ne (by omega)]
  have hQ : tQ (mkGroup σ l a b) = qup (tQ σ) l (tQ σ l ++ [tG σ]) := rfl
  have hq : ∀ c, c < tL σ → ∀ x, x ∈ qup (tQ σ) l (tQ σ l ++ [tG σ]) c → (x ∈ tQ σ c ∧ x < tG σ) ∨ (x = tG σ ∧ c = l) := by
    intro c hc x hx
    by_cases hcl : c = l
    · subst hcl
      rw [qup_eq] at hx
      rcases List.mem_append.mp hx with h8 | h8
      · exact Or.inl ⟨h8, hb.2.2.2.2 c hc x h8⟩
      · exact Or.inr ⟨by simpa using h8, rfl⟩
    · rw [qup_ne hcl] at hx
      exact Or.inl ⟨hx, hb.2.2.2.2 c hc x hx⟩
  refine ⟨⟨hb.1, hb.2.1, (by omega : tG σ + 1 ≤ 91), hb.2.2.2.1, fun c hc x hx => ?_⟩, ⟨t, by rw [z1 40 0 (by decide)]; exact ht, ht2⟩, fun g hg => ?_, fun c hc => ⟨?_, fun x hx => ?_⟩, h6, fun c hc => by rw [z1 1 c (by decide)]; exact h7 c hc⟩
  · have : x < tG σ + 1 := by
      rcases hq c hc x hx with ⟨-, h8⟩ | ⟨h8, -⟩ <;> omega
    exact this
  · by_cases hgg : g = tG σ
    · subst hgg
      exact Or.inr ⟨l, hl, by rw [hZ, zup_eq]⟩
    · have hg' : g < tG σ + 1 := hg
      rw [z13 g hgg]
      exact h4 g (by omega)
  · rw [hQ]
    by_cases hcl : c = l
    · subst hcl
      rw [qup_eq, List.nodup_append]
      refine ⟨(h5 c hc).1, by simp, fun x hx y hy => ?_⟩
      have : y = tG σ := by simpa using hy
      have := hb.2.2.2.2 c hc x hx
      omega
    · rw [qup_ne hcl]
      exact (h5 c hc).1
  · rcases hq c hc x hx with ⟨h8, h9⟩ | ⟨rfl, rfl⟩
    · rw [z13 x (by omega)]
      exact (h5 c hc).2 x h8
    · rw [hZ, zup_eq]
end MAKE

/-! Lift: what acts, piece by piece. -/
def kLE : KL → KL → Prop
  | [], [] => True
  | a :: l, b :: m => (a = none ∨ a = b) ∧ kLE l m
  | _, _ => False
theorem kLE_spec : ∀ {ls' ls : KL}, kLE ls' ls → ls'.length = ls.length ∧ ∀ (i : Nat) (v : KV), kget ls' i = some v → kget ls i = some v
  | [], [], _ => ⟨rfl, fun i v h => h⟩
  | [], _ :: _, h => h.elim
  | _ :: _, [], h => h.elim
  | a :: l, b :: m, h => by
    obtain ⟨h1, h2⟩ := kLE_spec h.2
    refine ⟨by simp [h1], fun i v hv => ?_⟩
    cases i with
    | zero =>
      rcases h.1 with h3 | h3
      · simp [kget, h3] at hv
      · rw [← h3]; exact hv
    | succ i => exact h2 i v hv
theorem KW.le {X : KX} {pc : Nat} {ls ls' : KL} {st : List KV} {M : KM} {cs sl : Nat} (hl' : kLE ls' ls) (h : KW X pc ls' st M cs sl) : KW X pc ls st M cs sl :=
  KW.weak (kLE_spec hl').1 (kLE_spec hl').2 h
/-- from D the memory has gone to one that holds σ' in part L, the rest as it was -/
def kTo (L : Nat) (D : KI → Nat → Int32) (G : KI → Nat → Int64) (σ' : KT) (M' : KM) : Prop := ∃ D', M' = km D' G ∧ kRep L D' σ' ∧ kOff L D' D
theorem kS.qlt {σ : KT} (h : kS σ) {g l : Nat} (hg : g < tG σ) (hl : l < tL σ) (hn : tZ σ 13 g = -1) : (tQ σ l).length < tG σ := by
  have hb2 := h.1.2.1
  have : (g :: tQ σ l).length ≤ tG σ := nodup_len _ _ (List.nodup_cons.mpr ⟨fun hm => nI_m1 (by omega) (((h.2.2.2.1 l hl).2 g hm).symm.trans hn), (h.2.2.2.1 l hl).1⟩) (fun x hx => by
    rcases List.mem_cons.mp hx with rfl | hx
    · exact hg
    · exact h.1.2.2.2.2 l hl x hx)
  simp only [List.length_cons] at this
  omega
theorem kS.slt {σ : KT} (h : kS σ) {c : Nat} (hc : c < tC σ) (hn : tZ σ 1 c ≠ -1) : (tS σ).length < tC σ := by
  have : (c :: tS σ).length ≤ tC σ := nodup_len _ _ (List.nodup_cons.mpr ⟨fun hm => hn (h.2.2.2.2.2 c hm), h.2.2.2.2.1⟩) (fun x hx => by
    rcases List.mem_cons.mp hx with rfl | hx
    · exact hc
    · exact h.1.2.2.2.1 x hx)
  simp only [List.length_cons] at this
  omega
section ACTS
variable {D : KI → Nat → Int32} {G : KI → Nat → Int64} {L : Nat} {σ : KT}
theorem s_takeOut (hL : L < 2) (hr : kRep L D σ) (hs : kS σ) {g : Nat} (hg : g < tG σ) : SpQ mX3_takeOutOfQueue 0 0 [kR (some (3, L, 0)), kI (nI g)] (km D G) (fun v M' => v = none ∧ kTo L D G (takeOut σ g) M') := by
  refine SpQ_of (own := 3) (ini := false) (by decide +kernel) rfl (by decide) (Nat.le_of_ble_eq_true rfl) ?_
  intro X hC hE hL0
  have hb2 := hs.1.2.1
  have hb3 := hs.1.2.2.1
  have hlive : kLive (3, L, 0) := ⟨hL, rfl⟩
  have hlive10 : kLive (10, L, 0) := ⟨hL, rfl⟩
  have hlive11 : kLive (11, L, 0) := ⟨hL, rfl⟩
  have hg91 : g < 91 := by omega
  have hlg : kLive (1, L, g) := ⟨hL, hg91⟩
  have h3 := hr.old.2.2.2.1 g hg 3 (by decide)
  refine kwX3_takeOutOfQueue_0 hC hE ?_
  simp only [kbX3_takeOutOfQueue_0, mX3_takeOutOfQueue, kblk, kstp, kent, kpad, kget, kst1, kst2, kc2, cond_false, cond_true, kfv, kfit, kOkf, kputv, kputD, kputG, kcpy, kcat, kRR, kNN, true_and, and_true, if_true, if_false, if_pos, Nat.reduceAdd, Nat.reduceEqDiff, Nat.reduceLeDiff, Nat.reduceLT, reduceIte, Prod.mk.injEq, eq_self, false_and, and_false, reduceCtorEq, Nat.reduceSub, List.reverse_cons, List.reverse_nil, List.nil_append, List.cons_append, Option.toList_some, Option.toList_none, not_true_eq_false, not_false_eq_true, hlive, hlive10, nI_clamp (show g < 2 ^ 31 by omega), hg91, hlg, h3, true_or, or_true]
  refine ⟨vp_in_nI hg91 (by omega), fun h => ?_, fun h => ?_⟩
  · refine kwX3_takeOutOfQueue_31 hC hE ?_
    simp only [kbX3_takeOutOfQueue_31, mX3_takeOutOfQueue, kblk, kstp, kent, kpad, kget, kst1, kst2, kc2, cond_false, cond_true, kfv, kfit, kOkf, kputv, kputD, kputG, kcpy, kcat, kRR, kNN, true_and, and_true, if_true, if_false, if_pos, Nat.reduceAdd, Nat.reduceEqDiff, Nat.reduceLeDiff, Nat.reduceLT, reduceIte, Prod.mk.injEq, eq_self, false_and, and_false, reduceCtorEq, Nat.reduceSub, List.reverse_cons, List.reverse_nil, List.nil_append, List.cons_append, Option.toList_some, Option.toList_none, not_true_eq_false, not_false_eq_true, hlg]
    refine ⟨⟨rfl, _, rfl, ?_, kOff.put⟩, trivial, Nat.le_refl _, Nat.le_refl _⟩
    unfold takeOut
    rw [if_pos h]
    exact rep_group hr g 3 (-1) (by decide)
  · obtain ⟨l, hl, hlz⟩ := (hs.2.2.1 g hg).resolve_left h
    have hl4 : l < 4 := by omega
    have hll : kLive (2, L, l) := ⟨hL, hl4⟩
    have hlr : kLive (4, L, l + 1) := ⟨hL, by omega⟩
    have hq := hr.old.2.2.2.2.2.2.2 l hl
    have hql := hs.qlen hl
    rw [hlz] at h3
    refine kwX3_takeOutOfQueue_15 hC hE ?_
    simp only [kbX3_takeOutOfQueue_15, mX3_takeOutOfQueue, kblk, kstp, kent, kpad, kget, kst1, kst2, kc2, cond_false, cond_true, kfv, kfit, kOkf, kputv, kputD, kputG, kcpy, kcat, kRR, kNN, true_and, and_true, if_true, if_false, if_pos, Nat.reduceAdd, Nat.reduceEqDiff, Nat.reduceLeDiff, Nat.reduceLT, reduceIte, Prod.mk.injEq, eq_self, false_and, and_false, reduceCtorEq, Nat.reduceSub, List.reverse_cons, List.reverse_nil, List.nil_append, List.cons_append, Option.toList_some, Option.toList_none, not_true_eq_false, not_false_eq_true, hlive, hlive11, hlg, h3, nI_clamp (show l < 2 ^ 31 by omega), hl4, hll, true_or, or_true]
    refine ⟨vp_in_nI hl4 (by omega), ?_⟩
    have hN := kN_lane hL l
    refine KW_callV hC (by decide +kernel) kl3_112 (by decide) ((s_Row_remove (n := g) hL (by omega) hq (by rw [hN]; omega) (by rw [hN]; decide) (by omega) (fun x hx => by have := hs.1.2.2.2.2 l hl x hx; omega))) rfl rfl (Nat.le_of_ble_eq_true rfl) rfl hlr (by simp [kOkL, kOk, hlive, hlg]) (by simp [kOkS]) (Nat.le_of_ble_eq_true rfl) (Nat.le_of_ble_eq_true rfl) (Nat.le_of_ble_eq_true rfl) ?_
    rintro v M' ⟨rfl, D', rfl, hr', ho⟩
    have hr2 := rep_queue hr ho hr'
    refine kwX3_takeOutOfQueue_31 hC hE ?_
    simp only [kbX3_takeOutOfQueue_31, mX3_takeOutOfQueue, kblk, kstp, kent, kpad, kget, kst1, kst2, kc2, cond_false, cond_true, kfv, kfit, kOkf, kputv, kputD, kputG, kcpy, kcat, kRR, kNN, true_and, and_true, if_true, if_false, if_pos, Nat.reduceAdd, Nat.reduceEqDiff, Nat.reduceLeDiff, Nat.reduceLT, reduceIte, Prod.mk.injEq, eq_self, false_and, and_false, reduceCtorEq, Nat.reduceSub, List.reverse_cons, List.reverse_nil, List.nil_append, List.cons_append, Option.toList_some, Option.toList_none, not_true_eq_false, not_false_eq_true, hlg]
    refine ⟨⟨rfl, _, rfl, ?_, kOff.put.trans (kOff.row ho)⟩, trivial, Nat.le_refl _, Nat.le_refl _⟩
    rw [takeOut_some hlz (by omega)]
    exact rep_group hr2 g 3 (-1) (by decide)
theorem s_putInto (hL : L < 2) (hr : kRep L D σ) {g l : Nat} (hg91 : g < 91) (hl : l < tL σ) (hql : (tQ σ l).length < 91) : SpQ mX3_putIntoQueue 0 0 [kR (some (3, L, 0)), kI (nI g), kI (nI l)] (km D G) (fun v M' => v = none ∧ kTo L D G (putT σ g l) M') := by
  refine SpQ_of (own := 3) (ini := false) (by decide +kernel) rfl (by decide) (Nat.le_of_ble_eq_true rfl) ?_
  intro X hC hE hL0
  have hb2 := hr.1.2.1
  have hlive : kLive (3, L, 0) := ⟨hL, rfl⟩
  have hlive10 : kLive (10, L, 0) := ⟨hL, rfl⟩
  have hlive11 : kLive (11, L, 0) := ⟨hL, rfl⟩
  have hlg : kLive (1, L, g) := ⟨hL, hg91⟩
  have hl4 : l < 4 := by omega
  have hll : kLive (2, L, l) := ⟨hL, hl4⟩
  have hlr : kLive (4, L, l + 1) := ⟨hL, by omega⟩
  have hN := kN_lane hL l
  refine kwX3_putIntoQueue_0 hC hE ?_
  simp only [kbX3_putIntoQueue_0, mX3_putIntoQueue, kblk, kstp, kent, kpad, kget, kst1, kst2, kc2, cond_false, cond_true, kfv, kfit, kOkf, kputv, kputD, kputG, kcpy, kcat, kRR, kNN, true_and, and_true, if_true, if_false, if_pos, Nat.reduceAdd, Nat.reduceEqDiff, Nat.reduceLeDiff, Nat.reduceLT, reduceIte, Prod.mk.injEq, eq_self, false_and, and_false, reduceCtorEq, Nat.reduceSub, List.reverse_cons, List.reverse_nil, List.nil_append, List.cons_append, Option.toList_some, Option.toList_none, not_true_eq_false, not_false_eq_true, hlive, hlive10, hlive11, nI_clamp (show g < 2 ^ 31 by omega), hg91, hlg, nI_clamp (show l < 2 ^ 31 by omega), hl4, hll, true_or, or_true]
  refine ⟨vp_in_nI hg91 (by omega), vp_in_nI hl4 (by omega), ?_⟩
  have hr1 := rep_group hr g 3 (nI l) (by decide)
  have hq := hr1.old.2.2.2.2.2.2.2 l hl
  refine KW_callV hC (by decide +kernel) kl3_95 (by decide) ((s_Row_append (n := g) hL (by omega) hq (by rw [hN, tQ_tset]; omega) (by rw [hN]; decide))) rfl rfl (Nat.le_of_ble_eq_true rfl) rfl hlr (by simp [kOkL, kOk, hlive]) (by simp [kOkS]) (Nat.le_of_ble_eq_true rfl) (Nat.le_of_ble_eq_true rfl) (Nat.le_of_ble_eq_true rfl) ?_
  rintro v M' ⟨rfl, D', rfl, hr', ho⟩
  refine kwX3_putIntoQueue_23 hC hE ?_
  simp only [kbX3_putIntoQueue_23, mX3_putIntoQueue, kblk, kstp, kent, kpad, kget, kst1, kst2, kc2, cond_false, cond_true, kfv, kfit, kOkf, kputv, kputD, kputG, kcpy, kcat, kRR, kNN, true_and, and_true, if_true, if_false, if_pos, Nat.reduceAdd, Nat.reduceEqDiff, Nat.reduceLeDiff, Nat.reduceLT, reduceIte, Prod.mk.injEq, eq_self, false_and, and_false, reduceCtorEq, Nat.reduceSub, List.reverse_cons, List.reverse_nil, List.nil_append, List.cons_append, Option.toList_some, Option.toList_none, not_true_eq_false, not_false_eq_true]
  exact ⟨⟨rfl, _, rfl, rep_queue hr1 ho hr', (kOff.row ho).trans kOff.put⟩, trivial, Nat.le_refl _, Nat.le_refl _⟩
theorem s_sendAway (hL : L < 2) (hr : kRep L D σ) (hs : kS σ) {g : Nat} (hg : g < tG σ) : SpQ mX3_sendAway 0 0 [kR (some (3, L, 0)), kI (nI g)] (km D G) (fun v M' => v = none ∧ kTo L D G (sendT σ g) M') := by
  refine SpQ_of (own := 3) (ini := false) (by decide +kernel) rfl (by decide) (Nat.le_of_ble_eq_true rfl) ?_
  intro X hC hE hL0
  have hb3 := hs.1.2.2.1
  have hlive : kLive (3, L, 0) := ⟨hL, rfl⟩
  have hlive10 : kLive (10, L, 0) := ⟨hL, rfl⟩
  have hg91 : g < 91 := by omega
  have hlg : kLive (1, L, g) := ⟨hL, hg91⟩
  refine kwX3_sendAway_0 hC hE ?_
  simp only [kbX3_sendAway_0, mX3_sendAway, kblk, kstp, kent, kpad, kget, kst1, kst2, kc2, cond_false, cond_true, kfv, kfit, kOkf, kputv, kputD, kputG, kcpy, kcat, kRR, kNN, true_and, and_true, if_true, if_false, if_pos, Nat.reduceAdd, Nat.reduceEqDiff, Nat.reduceLeDiff, Nat.reduceLT, reduceIte, Prod.mk.injEq, eq_self, false_and, and_false, reduceCtorEq, Nat.reduceSub, List.reverse_cons, List.reverse_nil, List.nil_append, List.cons_append, Option.toList_some, Option.toList_none, not_true_eq_false, not_false_eq_true]
  refine KW_callV hC (by decide +kernel) kl3_115 (by decide) ((s_takeOut hL hr hs hg)) rfl rfl (Nat.le_of_ble_eq_true rfl) rfl hlive (by simp [kOkL, kOk, hlive]) (by simp [kOkS]) (Nat.le_of_ble_eq_true rfl) (Nat.le_of_ble_eq_true rfl) (Nat.le_of_ble_eq_true rfl) ?_
  rintro v M' ⟨rfl, D', rfl, hr', ho⟩
  refine kwX3_sendAway_5 hC hE ?_
  simp only [kbX3_sendAway_5, mX3_sendAway, kblk, kstp, kent, kpad, kget, kst1, kst2, kc2, cond_false, cond_true, kfv, kfit, kOkf, kputv, kputD, kputG, kcpy, kcat, kRR, kNN, true_and, and_true, if_true, if_false, if_pos, Nat.reduceAdd, Nat.reduceEqDiff, Nat.reduceLeDiff, Nat.reduceLT, reduceIte, Prod.mk.injEq, eq_self, false_and, and_false, reduceCtorEq, Nat.reduceSub, List.reverse_cons, List.reverse_nil, List.nil_append, List.cons_append, Option.toList_some, Option.toList_none, not_true_eq_false, not_false_eq_true, hlive, hlive10, nI_clamp (show g < 2 ^ 31 by omega), hg91, hlg, true_or, or_true]
  exact ⟨vp_in_nI hg91 (by omega), ⟨rfl, _, rfl, rep_group hr' g 2 3 (by decide), kOff.put.trans ho⟩, trivial, Nat.le_refl _, Nat.le_refl _⟩
theorem cool_0 : coolTo σ 0 = σ := by
  unfold coolTo tMod
  have : (fun f i => if f = 17 ∧ i < 0 ∧ tZ σ 12 i = 1 then tZ σ f i + 1 else tZ σ f i) = tZ σ := by
    funext f i; simp
  rw [this]; rfl
theorem cool_no {i : Nat} (h : ¬ tZ σ 12 i = 1) : coolTo σ (i + 1) = coolTo σ i := by
  unfold coolTo tMod
  congr 1; congr 1
  funext f j
  by_cases hj : j = i
  · subst hj; simp [h]
  · have : j < i + 1 ↔ j < i := by omega
    simp only [this]
theorem cool_yes {i : Nat} (h : tZ σ 12 i = 1) : coolTo σ (i + 1) = tset (coolTo σ i) 17 i (tZ σ 17 i + 1) := by
  unfold coolTo tMod tset
  congr 1; congr 1
  funext f j
  simp only [zup]
  by_cases hj : j = i
  · subst hj
    by_cases hf : f = 17
    · subst hf; simp [h]
    · simp [hf]
  · have : j < i + 1 ↔ j < i := by omega
    simp [hj, this]
theorem cool_17 {i : Nat} : tZ (coolTo σ i) 17 i = tZ σ 17 i := by
  unfold coolTo
  rw [tZ_tMod]
  exact if_neg (fun z => absurd z.2.1 (Nat.lt_irrefl _))
theorem cool_12 {i j : Nat} : tZ (coolTo σ i) 12 j = tZ σ 12 j := by
  unfold coolTo
  rw [tZ_tMod]
  exact if_neg (fun z => absurd z.1 (by decide))
theorem s_coolRiders (hL : L < 2) (hr : kRep L D σ) (hb : kB σ) : SpQ mX3_coolRiders 0 0 [kR (some (3, L, 0))] (km D G) (fun v M' => v = none ∧ kTo L D G (coolTo σ (tG σ)) M') := by
  refine SpQ_of (own := 3) (ini := false) (by decide +kernel) rfl (by decide) (Nat.le_of_ble_eq_true rfl) ?_
  intro X hC hE hL0
  have hb1 := hb.2.2.1
  have hlive : kLive (3, L, 0) := ⟨hL, rfl⟩
  have hlive10 : kLive (10, L, 0) := ⟨hL, rfl⟩
  have loop : ∀ (m i : Nat) (D' : KI → Nat → Int32), i + m = tG σ → kRep L D' (coolTo σ i) → kOff L D' D → KW X 2 [some (kR (some (3, L, 0))), some (kI (nI i))] [] (km D' G) 0 0 := by
    intro m
    induction m with
    | zero =>
      intro i D' him hr' ho
      have hi : i = tG σ := by omega
      subst hi
      have c7 : D' (3, L, 0) 7 = nI (tG σ) := hr'.old.1.2.2
      refine kwX3_coolRiders_2 hC hE ?_
      simp only [kbX3_coolRiders_2, mX3_coolRiders, kblk, kstp, kent, kpad, kget, kst1, kst2, kc2, cond_false, cond_true, kfv, kfit, kOkf, kputv, kputD, kputG, kcpy, kcat, kRR, kNN, true_and, and_true, if_true, if_false, if_pos, Nat.reduceAdd, Nat.reduceEqDiff, Nat.reduceLeDiff, Nat.reduceLT, reduceIte, Prod.mk.injEq, eq_self, false_and, and_false, reduceCtorEq, Nat.reduceSub, List.reverse_cons, List.reverse_nil, List.nil_append, List.cons_append, Option.toList_some, Option.toList_none, not_true_eq_false, not_false_eq_true, hlive, c7]
      refine ⟨fun _ => ?_, fun h => absurd (nI_le (Nat.le_refl _) (by omega)) h⟩
      refine kwX3_coolRiders_44 hC hE ?_
      simp only [kbX3_coolRiders_44, mX3_coolRiders, kblk, kstp, kent, kpad, kget, kst1, kst2, kc2, cond_false, cond_true, kfv, kfit, kOkf, kputv, kputD, kputG, kcpy, kcat, kRR, kNN, true_and, and_true, if_true, if_false, if_pos, Nat.reduceAdd, Nat.reduceEqDiff, Nat.reduceLeDiff, Nat.reduceLT, reduceIte, Prod.mk.injEq, eq_self, false_and, and_false, reduceCtorEq, Nat.reduceSub, List.reverse_cons, List.reverse_nil, List.nil_append, List.cons_append, Option.toList_some, Option.toList_none, not_true_eq_false, not_false_eq_true]
      exact ⟨⟨rfl, _, rfl, hr', ho⟩, trivial, Nat.le_refl _, Nat.le_refl _⟩
    | succ m ih =>
      intro i D' him hr' ho
      have hi : i < tG σ := by omega
      have hi91 : i < 91 := by omega
      have hli : kLive (1, L, i) := ⟨hL, hi91⟩
      have c7 : D' (3, L, 0) 7 = nI (tG σ) := hr'.old.1.2.2
      have h2 := hr'.old.2.2.2.1 i hi 2 (by decide)
      have h7 := hr'.old.2.2.2.1 i hi 7 (by decide)
      rw [cool_12] at h2
      rw [cool_17] at h7
      refine kwX3_coolRiders_2 hC hE ?_
      simp only [kbX3_coolRiders_2, mX3_coolRiders, kblk, kstp, kent, kpad, kget, kst1, kst2, kc2, cond_false, cond_true, kfv, kfit, kOkf, kputv, kputD, kputG, kcpy, kcat, kRR, kNN, true_and, and_true, if_true, if_false, if_pos, Nat.reduceAdd, Nat.reduceEqDiff, Nat.reduceLeDiff, Nat.reduceLT, reduceIte, Prod.mk.injEq, eq_self, false_and, and_false, reduceCtorEq, Nat.reduceSub, List.reverse_cons, List.reverse_nil, List.nil_append, List.cons_append, Option.toList_some, Option.toList_none, not_true_eq_false, not_false_eq_true, hlive, c7]
      refine ⟨fun h => absurd h (nI_ge hi (by omega)), fun _ => ?_⟩
      refine kwX3_coolRiders_10 hC hE ?_
      simp only [kbX3_coolRiders_10, mX3_coolRiders, kblk, kstp, kent, kpad, kget, kst1, kst2, kc2, cond_false, cond_true, kfv, kfit, kOkf, kputv, kputD, kputG, kcpy, kcat, kRR, kNN, true_and, and_true, if_true, if_false, if_pos, Nat.reduceAdd, Nat.reduceEqDiff, Nat.reduceLeDiff, Nat.reduceLT, reduceIte, Prod.mk.injEq, eq_self, false_and, and_false, reduceCtorEq, Nat.reduceSub, List.reverse_cons, List.reverse_nil, List.nil_append, List.cons_append, Option.toList_some, Option.toList_none, not_true_eq_false, not_false_eq_true, hlive, hlive10, nI_clamp (show i < 2 ^ 31 by omega), hi91, hli, h2, true_or, or_true]
      refine ⟨vp_in_nI hi91 (by omega), fun h => ?_, fun h => ?_⟩
      · refine kwX3_coolRiders_38 hC hE ?_
        simp only [kbX3_coolRiders_38, mX3_coolRiders, kblk, kstp, kent, kpad, kget, kst1, kst2, kc2, cond_false, cond_true, kfv, kfit, kOkf, kputv, kputD, kputG, kcpy, kcat, kRR, kNN, true_and, and_true, if_true, if_false, if_pos, Nat.reduceAdd, Nat.reduceEqDiff, Nat.reduceLeDiff, Nat.reduceLT, reduceIte, Prod.mk.injEq, eq_self, false_and, and_false, reduceCtorEq, Nat.reduceSub, List.reverse_cons, List.reverse_nil, List.nil_append, List.cons_append, Option.toList_some, Option.toList_none, not_true_eq_false, not_false_eq_true, nI_1]
        exact ih (i + 1) D' (by omega) (by rw [cool_no h]; exact hr') ho
      · refine kwX3_coolRiders_23 hC hE ?_
        simp only [kbX3_coolRiders_23, mX3_coolRiders, kblk, kstp, kent, kpad, kget, kst1, kst2, kc2, cond_false, cond_true, kfv, kfit, kOkf, kputv, kputD, kputG, kcpy, kcat, kRR, kNN, true_and, and_true, if_true, if_false, if_pos, Nat.reduceAdd, Nat.reduceEqDiff, Nat.reduceLeDiff, Nat.reduceLT, reduceIte, Prod.mk.injEq, eq_self, false_and, and_false, reduceCtorEq, Nat.reduceSub, List.reverse_cons, List.reverse_nil, List.nil_append, List.cons_append, Option.toList_some, Option.toList_none, not_true_eq_false, not_false_eq_true, hlive, hlive10, nI_clamp (show i < 2 ^ 31 by omega), hi91, hli, h7, true_or, or_true]
        refine ⟨vp_in_nI hi91 (by omega), ?_⟩
        refine kwX3_coolRiders_38 hC hE ?_
        simp only [kbX3_coolRiders_38, mX3_coolRiders, kblk, kstp, kent, kpad, kget, kst1, kst2, kc2, cond_false, cond_true, kfv, kfit, kOkf, kputv, kputD, kputG, kcpy, kcat, kRR, kNN, true_and, and_true, if_true, if_false, if_pos, Nat.reduceAdd, Nat.reduceEqDiff, Nat.reduceLeDiff, Nat.reduceLT, reduceIte, Prod.mk.injEq, eq_self, false_and, and_false, reduceCtorEq, Nat.reduceSub, List.reverse_cons, List.reverse_nil, List.nil_append, List.cons_append, Option.toList_some, Option.toList_none, not_true_eq_false, not_false_eq_true, nI_1]
        exact ih (i + 1) _ (by omega) (by rw [cool_yes h]; exact rep_group hr' i 7 _ (by decide)) (kOff.put.trans ho)
  refine kwX3_coolRiders_0 hC hE ?_
  simp only [kbX3_coolRiders_0, mX3_coolRiders, kblk, kstp, kent, kpad, kget, kst1, kst2, kc2, cond_false, cond_true, kfv, kfit, kOkf, kputv, kputD, kputG, kcpy, kcat, kRR, kNN, true_and, and_true, if_true, if_false, if_pos, Nat.reduceAdd, Nat.reduceEqDiff, Nat.reduceLeDiff, Nat.reduceLT, reduceIte, Prod.mk.injEq, eq_self, false_and, and_false, reduceCtorEq, Nat.reduceSub, List.reverse_cons, List.reverse_nil, List.nil_append, List.cons_append, Option.toList_some, Option.toList_none, not_true_eq_false, not_false_eq_true]
  exact loop (tG σ) 0 D (by omega) (by rw [cool_0]; exact hr) kOff.refl
end ACTS

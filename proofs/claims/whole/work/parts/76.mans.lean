/-! The model's answers. -/
section MANS
variable {D : KI → Nat → Int32} {G : KI → Nat → Int64} {σ : KT}
theorem n_stretch (hs : kS σ) {n : Int32} {v : Option KV} {M' : KM} (hq : ((2 ≤ n ∧ n ≤ 12) ∧ tOnRope σ = 0 ∧ v = some (kI (tZ σ 38 0)) ∧ mPub D G (tset σ 38 0 n) 0 M') ∨ (¬ (2 ≤ n ∧ n ≤ 12) ∧ v = some (kI 0) ∧ mPub D G σ 1 M') ∨ ((2 ≤ n ∧ n ≤ 12) ∧ ¬ tOnRope σ = 0 ∧ v = some (kI 0) ∧ mPub D G σ 2 M')) : mAns D G (rStretch σ n) v M' := by
  obtain ⟨bC, bL, bG, -⟩ := hs.1
  rcases hq with ⟨c1, c2, rfl, hp⟩ | ⟨c1, rfl, hp⟩ | ⟨c1, c2, rfl, hp⟩
  · exact mAns.of (k := 0) (val := tZ σ 38 0) (show rStretch σ n = (0, tZ σ 38 0, tset σ 38 0 n) by unfold rStretch; rw [if_pos c1, if_pos c2]) rfl hp
  · exact mAns.of (k := 1) (val := 0) (show rStretch σ n = (1, 0, σ) by unfold rStretch; rw [if_neg c1]) rfl hp
  · exact mAns.of (k := 2) (val := 0) (show rStretch σ n = (2, 0, σ) by unfold rStretch; rw [if_pos c1, if_neg c2]) rfl hp
theorem n_addChair (hs : kS σ) {n : Int32} {v : Option KV} {M' : KM} (hq : ((1 ≤ n ∧ n ≤ 6) ∧ tC σ < 20 ∧ v = some (kI (nI (tC σ))) ∧ mPub D G (mkChair σ n) 0 M') ∨ (¬ (1 ≤ n ∧ n ≤ 6) ∧ v = some (kI 0) ∧ mPub D G σ 1 M') ∨ ((1 ≤ n ∧ n ≤ 6) ∧ ¬ tC σ < 20 ∧ v = some (kI 0) ∧ mPub D G σ 2 M')) : mAns D G (rAddChair σ n) v M' := by
  obtain ⟨bC, bL, bG, -⟩ := hs.1
  rcases hq with ⟨c1, c2, rfl, hp⟩ | ⟨c1, rfl, hp⟩ | ⟨c1, c2, rfl, hp⟩
  · exact mAns.of (k := 0) (val := nI (tC σ)) (show rAddChair σ n = (0, nI (tC σ), mkChair σ n) by unfold rAddChair; rw [if_pos c1, if_pos c2]) rfl hp
  · exact mAns.of (k := 1) (val := 0) (show rAddChair σ n = (1, 0, σ) by unfold rAddChair; rw [if_neg c1]) rfl hp
  · exact mAns.of (k := 2) (val := 0) (show rAddChair σ n = (2, 0, σ) by unfold rAddChair; rw [if_pos c1, if_neg c2]) rfl hp
theorem n_want (hs : kS σ) {n : Int32} {v : Option KV} {M' : KM} (hq : ((0 ≤ n ∧ n ≤ 20) ∧ v = some (kI (tZ σ 39 0)) ∧ mPub D G (tset σ 39 0 n) 0 M') ∨ (¬ (0 ≤ n ∧ n ≤ 20) ∧ v = some (kI 0) ∧ mPub D G σ 1 M')) : mAns D G (rWant σ n) v M' := by
  obtain ⟨bC, bL, bG, -⟩ := hs.1
  rcases hq with ⟨c1, rfl, hp⟩ | ⟨c1, rfl, hp⟩
  · exact mAns.of (k := 0) (val := tZ σ 39 0) (show rWant σ n = (0, tZ σ 39 0, tset σ 39 0 n) by unfold rWant; rw [if_pos c1]) rfl hp
  · exact mAns.of (k := 1) (val := 0) (show rWant σ n = (1, 0, σ) by unfold rWant; rw [if_neg c1]) rfl hp
theorem n_addLane (hs : kS σ) {v : Option KV} {M' : KM} (hq : (tL σ < 4 ∧ v = some (kI (nI (tL σ))) ∧ mPub D G (mkLane σ) 0 M') ∨ (¬ tL σ < 4 ∧ v = some (kI 0) ∧ mPub D G σ 1 M')) : mAns D G (rAddLane σ) v M' := by
  obtain ⟨bC, bL, bG, -⟩ := hs.1
  rcases hq with ⟨c1, rfl, hp⟩ | ⟨c1, rfl, hp⟩
  · exact mAns.of (k := 0) (val := nI (tL σ)) (show rAddLane σ  = (0, nI (tL σ), mkLane σ) by unfold rAddLane; rw [if_pos c1]) rfl hp
  · exact mAns.of (k := 1) (val := 0) (show rAddLane σ  = (1, 0, σ) by unfold rAddLane; rw [if_neg c1]) rfl hp
theorem n_shut (hs : kS σ) {c b : Int32} {v : Option KV} {M' : KM} (hq : (∃ l, l < tL σ ∧ c = nI l ∧ v = some (kI (tZ σ 21 l)) ∧ mPub D G (tset σ 21 l b) 0 M') ∨ (¬ (0 ≤ c ∧ c < nI (tL σ)) ∧ v = some (kI 0) ∧ mPub D G σ 1 M')) : mAns D G (rShut σ c b) v M' := by
  obtain ⟨bC, bL, bG, -⟩ := hs.1
  rcases hq with ⟨l, hl, rfl, rfl, hp⟩ | ⟨c1, rfl, hp⟩
  · exact mAns.of (k := 0) (val := tZ σ 21 l) (show rShut σ (nI l) b = (0, tZ σ 21 l, tset σ 21 l b) by unfold rShut; rw [if_pos (rng hl (by omega)), nI_clamp (by omega)]) rfl hp
  · exact mAns.of (k := 1) (val := 0) (show rShut σ c b = (1, 0, σ) by unfold rShut; rw [if_neg c1]) rfl hp
theorem n_setWind (hs : kS σ) {c n : Int32} {v : Option KV} {M' : KM} (hq : (∃ i, i < 24 ∧ c = nI i ∧ (0 ≤ n ∧ n ≤ 9) ∧ v = some (kI (tZ σ 50 i)) ∧ mPub D G (tset σ 50 i n) 0 M') ∨ (¬ (0 ≤ c ∧ c < 24) ∧ v = some (kI 0) ∧ mPub D G σ 1 M') ∨ ((0 ≤ c ∧ c < 24) ∧ ¬ (0 ≤ n ∧ n ≤ 9) ∧ v = some (kI 0) ∧ mPub D G σ 2 M')) : mAns D G (rSetWind σ c n) v M' := by
  obtain ⟨bC, bL, bG, -⟩ := hs.1
  rcases hq with ⟨i, hi, rfl, c2, rfl, hp⟩ | ⟨c1, rfl, hp⟩ | ⟨c1, c2, rfl, hp⟩
  · exact mAns.of (k := 0) (val := tZ σ 50 i) (show rSetWind σ (nI i) n = (0, tZ σ 50 i, tset σ 50 i n) by unfold rSetWind; rw [if_pos (show 0 ≤ nI i ∧ nI i < 24 from rng (n := 24) hi (by decide)), if_pos c2, nI_clamp (by omega)]) rfl hp
  · exact mAns.of (k := 1) (val := 0) (show rSetWind σ c n = (1, 0, σ) by unfold rSetWind; rw [if_neg c1]) rfl hp
  · exact mAns.of (k := 2) (val := 0) (show rSetWind σ c n = (2, 0, σ) by unfold rSetWind; rw [if_pos c1, if_neg c2]) rfl hp
theorem n_join (hs : kS σ) {c a b : Int32} {v : Option KV} {M' : KM} (hq : (∃ l, l < tL σ ∧ c = nI l ∧ (1 ≤ a ∧ a ≤ 6) ∧ (1 ≤ b ∧ b ≤ 200) ∧ tZ σ 21 l = 0 ∧ tG σ < 90 ∧ v = some (kI (nI (tG σ))) ∧ mPub D G (mkGroup σ l a b) 0 M') ∨ (¬ (0 ≤ c ∧ c < nI (tL σ)) ∧ v = some (kI 0) ∧ mPub D G σ 1 M') ∨ (∃ l, l < tL σ ∧ c = nI l ∧ ((¬ ((1 ≤ a ∧ a ≤ 6) ∧ 1 ≤ b ∧ b ≤ 200) ∧ v = some (kI 0) ∧ mPub D G σ 2 M') ∨ (((1 ≤ a ∧ a ≤ 6) ∧ 1 ≤ b ∧ b ≤ 200) ∧ ¬ (tZ σ 21 l = 0 ∧ tG σ < 90) ∧ v = some (kI 0) ∧ mPub D G σ 3 M')))) : mAns D G (rJoin σ c a b) v M' := by
  obtain ⟨bC, bL, bG, -⟩ := hs.1
  rcases hq with ⟨l, hl, rfl, c1, c2, c3, c4, rfl, hp⟩ | ⟨c1, rfl, hp⟩ | ⟨l, hl, rfl, ⟨c2, rfl, hp⟩ | ⟨c2, c3, rfl, hp⟩⟩
  · exact mAns.of (k := 0) (val := nI (tG σ)) (show rJoin σ (nI l) a b = (0, nI (tG σ), mkGroup σ l a b) by unfold rJoin; rw [if_pos (rng hl (by omega)), if_pos ⟨c1, c2⟩, nI_clamp (by omega), if_pos ⟨c3, c4⟩]) rfl hp
  · exact mAns.of (k := 1) (val := 0) (show rJoin σ c a b = (1, 0, σ) by unfold rJoin; rw [if_neg c1]) rfl hp
  · exact mAns.of (k := 2) (val := 0) (show rJoin σ (nI l) a b = (2, 0, σ) by unfold rJoin; rw [if_pos (rng hl (by omega)), if_neg c2]) rfl hp
  · exact mAns.of (k := 3) (val := 0) (show rJoin σ (nI l) a b = (3, 0, σ) by unfold rJoin; rw [if_pos (rng hl (by omega)), if_pos c2, nI_clamp (by omega), if_neg c3]) rfl hp
theorem n_change (hs : kS σ) {c n : Int32} {v : Option KV} {M' : KM} (hq : (∃ g l, g < tG σ ∧ l < tL σ ∧ c = nI g ∧ n = nI l ∧ tZ σ 12 g = 0 ∧ tZ σ 21 l = 0 ∧ v = some (kI (nI (tQ (putT (takeOut σ g) g l) l).length - 1)) ∧ mPub D G (putT (takeOut σ g) g l) 0 M') ∨ (¬ ((0 ≤ c ∧ c < nI (tG σ)) ∧ 0 ≤ n ∧ n < nI (tL σ)) ∧ v = some (kI 0) ∧ mPub D G σ 1 M') ∨ ((∃ g l, g < tG σ ∧ l < tL σ ∧ c = nI g ∧ n = nI l ∧ ¬ (tZ σ 12 g = 0 ∧ tZ σ 21 l = 0)) ∧ v = some (kI 0) ∧ mPub D G σ 2 M')) : mAns D G (rChange σ c n) v M' := by
  obtain ⟨bC, bL, bG, -⟩ := hs.1
  rcases hq with ⟨g, l, hg, hl, rfl, rfl, c1, c2, rfl, hp⟩ | ⟨c1, rfl, hp⟩ | ⟨⟨g, l, hg, hl, rfl, rfl, c2⟩, rfl, hp⟩
  · exact mAns.of (k := 0) (val := nI (tQ (putT (takeOut σ g) g l) l).length - 1) (show rChange σ (nI g) (nI l) = (0, nI (tQ (putT (takeOut σ g) g l) l).length - 1, putT (takeOut σ g) g l) by unfold rChange; rw [if_pos ⟨rng hg (by omega), rng hl (by omega)⟩, nI_clamp (show g < 2 ^ 31 by omega), nI_clamp (show l < 2 ^ 31 by omega), if_pos ⟨c1, c2⟩]) rfl hp
  · exact mAns.of (k := 1) (val := 0) (show rChange σ c n = (1, 0, σ) by unfold rChange; rw [if_neg c1]) rfl hp
  · exact mAns.of (k := 2) (val := 0) (show rChange σ (nI g) (nI l) = (2, 0, σ) by unfold rChange; rw [if_pos ⟨rng hg (by omega), rng hl (by omega)⟩, nI_clamp (show g < 2 ^ 31 by omega), nI_clamp (show l < 2 ^ 31 by omega), if_neg c2]) rfl hp
theorem n_leave (hs : kS σ) {c : Int32} {v : Option KV} {M' : KM} (hq : (∃ g, g < tG σ ∧ c = nI g ∧ tZ σ 12 g = 0 ∧ v = some (kI (tZ σ 13 g)) ∧ mPub D G (sendT σ g) 0 M') ∨ (¬ (0 ≤ c ∧ c < nI (tG σ)) ∧ v = some (kI 0) ∧ mPub D G σ 1 M') ∨ ((∃ g, g < tG σ ∧ c = nI g ∧ ¬ tZ σ 12 g = 0) ∧ v = some (kI 0) ∧ mPub D G σ 2 M')) : mAns D G (rLeave σ c) v M' := by
  obtain ⟨bC, bL, bG, -⟩ := hs.1
  rcases hq with ⟨g, hg, rfl, c1, rfl, hp⟩ | ⟨c1, rfl, hp⟩ | ⟨⟨g, hg, rfl, c2⟩, rfl, hp⟩
  · exact mAns.of (k := 0) (val := tZ σ 13 g) (show rLeave σ (nI g) = (0, tZ σ 13 g, sendT σ g) by unfold rLeave; rw [if_pos (rng hg (by omega)), nI_clamp (by omega), if_pos c1]) rfl hp
  · exact mAns.of (k := 1) (val := 0) (show rLeave σ c = (1, 0, σ) by unfold rLeave; rw [if_neg c1]) rfl hp
  · exact mAns.of (k := 2) (val := 0) (show rLeave σ (nI g) = (2, 0, σ) by unfold rLeave; rw [if_pos (rng hg (by omega)), nI_clamp (by omega), if_neg c2]) rfl hp
theorem n_group (hs : kS σ) {c n : Int32} {v : Option KV} {M' : KM} (hq : (∃ i j, i < tG σ ∧ j < 8 ∧ c = nI i ∧ n = nI j ∧ v = some (kI (tZ σ (10 + j) i)) ∧ mPub D G σ 0 M') ∨ (¬ ((0 ≤ c ∧ c < nI (tG σ)) ∧ 0 ≤ n ∧ n < 8) ∧ v = some (kI 0) ∧ mPub D G σ 1 M')) : mAns D G (rGroup σ c n) v M' := by
  obtain ⟨bC, bL, bG, -⟩ := hs.1
  rcases hq with ⟨i, j, hi, hj, rfl, rfl, rfl, hp⟩ | ⟨c1, rfl, hp⟩
  · exact mAns.of (k := 0) (val := tZ σ (10 + j) i) (show rGroup σ (nI i) (nI j) = (0, tZ σ (10 + j) i, σ) by unfold rGroup; rw [if_pos ⟨rng hi (by omega), rng (n := 8) hj (by decide)⟩, nI_clamp (show i < 2 ^ 31 by omega), nI_clamp (show j < 2 ^ 31 by omega)]) rfl hp
  · exact mAns.of (k := 1) (val := 0) (show rGroup σ c n = (1, 0, σ) by unfold rGroup; rw [if_neg c1]) rfl hp
theorem n_chair (hs : kS σ) {c n : Int32} {v : Option KV} {M' : KM} (hq : (∃ i j, i < tC σ ∧ j < 5 ∧ c = nI i ∧ n = nI j ∧ v = some (kI (tZ σ j i)) ∧ mPub D G σ 0 M') ∨ (¬ ((0 ≤ c ∧ c < nI (tC σ)) ∧ 0 ≤ n ∧ n < 5) ∧ v = some (kI 0) ∧ mPub D G σ 1 M')) : mAns D G (rChair σ c n) v M' := by
  obtain ⟨bC, bL, bG, -⟩ := hs.1
  rcases hq with ⟨i, j, hi, hj, rfl, rfl, rfl, hp⟩ | ⟨c1, rfl, hp⟩
  · exact mAns.of (k := 0) (val := tZ σ j i) (show rChair σ (nI i) (nI j) = (0, tZ σ j i, σ) by unfold rChair; rw [if_pos ⟨rng hi (by omega), rng (n := 5) hj (by decide)⟩, nI_clamp (show i < 2 ^ 31 by omega), nI_clamp (show j < 2 ^ 31 by omega)]) rfl hp
  · exact mAns.of (k := 1) (val := 0) (show rChair σ c n = (1, 0, σ) by unfold rChair; rw [if_neg c1]) rfl hp
theorem n_lane (hs : kS σ) {c n : Int32} {v : Option KV} {M' : KM} (hq : (∃ i j, i < tL σ ∧ j < 4 ∧ c = nI i ∧ n = nI j ∧ v = some (kI (tLaneFact σ i j)) ∧ mPub D G σ 0 M') ∨ (¬ ((0 ≤ c ∧ c < nI (tL σ)) ∧ 0 ≤ n ∧ n < 4) ∧ v = some (kI 0) ∧ mPub D G σ 1 M')) : mAns D G (rLane σ c n) v M' := by
  obtain ⟨bC, bL, bG, -⟩ := hs.1
  rcases hq with ⟨i, j, hi, hj, rfl, rfl, rfl, hp⟩ | ⟨c1, rfl, hp⟩
  · exact mAns.of (k := 0) (val := tLaneFact σ i j) (show rLane σ (nI i) (nI j) = (0, tLaneFact σ i j, σ) by unfold rLane; rw [if_pos ⟨rng hi (by omega), rng (n := 4) hj (by decide)⟩, nI_clamp (show i < 2 ^ 31 by omega), nI_clamp (show j < 2 ^ 31 by omega)]) rfl hp
  · exact mAns.of (k := 1) (val := 0) (show rLane σ c n = (1, 0, σ) by unfold rLane; rw [if_neg c1]) rfl hp
theorem n_queue (hs : kS σ) {c n : Int32} {v : Option KV} {M' : KM} (hq : (∃ l i x, l < tL σ ∧ c = nI l ∧ n = nI i ∧ (tQ σ l)[i]? = some x ∧ v = some (kI (nI x)) ∧ mPub D G σ 0 M') ∨ (¬ ((0 ≤ c ∧ c < nI (tL σ)) ∧ 0 ≤ n ∧ n < nI (tQ σ c.toNatClampNeg).length) ∧ v = some (kI 0) ∧ mPub D G σ 1 M')) : mAns D G (rQueue σ c n) v M' := by
  obtain ⟨bC, bL, bG, -⟩ := hs.1
  rcases hq with ⟨l, i, x, hl, rfl, rfl, hx, rfl, hp⟩ | ⟨c1, rfl, hp⟩
  · exact mAns.of (k := 0) (val := nI x) (show rQueue σ (nI l) (nI i) = (0, nI x, σ) by unfold rQueue; have hil := (List.getElem?_eq_some_iff.mp hx).1; have hql := hs.qlen hl; rw [nI_clamp (show l < 2 ^ 31 by omega), if_pos ⟨rng hl (by omega), rng hil (by omega)⟩, nI_clamp (show i < 2 ^ 31 by omega), hx, Option.getD_some]) rfl hp
  · exact mAns.of (k := 1) (val := 0) (show rQueue σ c n = (1, 0, σ) by unfold rQueue; rw [if_neg c1]) rfl hp
theorem n_shed (hs : kS σ) {n : Int32} {v : Option KV} {M' : KM} (hq : (∃ i x, n = nI i ∧ (tS σ)[i]? = some x ∧ v = some (kI (nI x)) ∧ mPub D G σ 0 M') ∨ (¬ (0 ≤ n ∧ n < nI (tS σ).length) ∧ v = some (kI 0) ∧ mPub D G σ 1 M')) : mAns D G (rShed σ n) v M' := by
  obtain ⟨bC, bL, bG, -⟩ := hs.1
  rcases hq with ⟨i, x, rfl, hx, rfl, hp⟩ | ⟨c1, rfl, hp⟩
  · exact mAns.of (k := 0) (val := nI x) (show rShed σ (nI i) = (0, nI x, σ) by unfold rShed; have hil := (List.getElem?_eq_some_iff.mp hx).1; have hql := hs.slen; rw [if_pos (rng hil (by omega)), nI_clamp (show i < 2 ^ 31 by omega), hx, Option.getD_some]) rfl hp
  · exact mAns.of (k := 1) (val := 0) (show rShed σ n = (1, 0, σ) by unfold rShed; rw [if_neg c1]) rfl hp
theorem n_pass (hs : kS σ) {n : Int32} {v : Option KV} {M' : KM} (hq : (∃ k, 1 ≤ k ∧ k ≤ 200 ∧ n = nI k ∧ v = some (kI (tStepsUp k σ)) ∧ mPub D G (tSteps k σ) 0 M') ∨ (¬ (1 ≤ n ∧ n ≤ 200) ∧ v = some (kI 0) ∧ mPub D G σ 1 M')) : mAns D G (rPass σ n) v M' := by
  obtain ⟨bC, bL, bG, -⟩ := hs.1
  rcases hq with ⟨k, k1, k2, rfl, rfl, hp⟩ | ⟨c1, rfl, hp⟩
  · exact mAns.of (k := 0) (val := tStepsUp k σ) (show rPass σ (nI k) = (0, tStepsUp k σ, tSteps k σ) by unfold rPass; rw [if_pos (show 1 ≤ nI k ∧ nI k ≤ 200 from rng1 (n := 200) k1 k2 (by decide)), nI_clamp (by omega)]) rfl hp
  · exact mAns.of (k := 1) (val := 0) (show rPass σ n = (1, 0, σ) by unfold rPass; rw [if_neg c1]) rfl hp
theorem n_count (hs : kS σ) {n : Int32} {v : Option KV} {M' : KM} (hq : (∃ i, i < 13 ∧ n = nI i ∧ v = some (kI (tFact σ i)) ∧ mPub D G σ 0 M') ∨ (¬ (0 ≤ n ∧ n < 13) ∧ v = some (kI 0) ∧ mPub D G σ 1 M')) : mAns D G (rCount σ n) v M' := by
  obtain ⟨bC, bL, bG, -⟩ := hs.1
  rcases hq with ⟨i, hi, rfl, rfl, hp⟩ | ⟨c1, rfl, hp⟩
  · exact mAns.of (k := 0) (val := tFact σ i) (show rCount σ (nI i) = (0, tFact σ i, σ) by unfold rCount; rw [if_pos (show 0 ≤ nI i ∧ nI i < 13 from rng (n := 13) hi (by decide)), nI_clamp (by omega)]) rfl hp
  · exact mAns.of (k := 1) (val := 0) (show rCount σ n = (1, 0, σ) by unfold rCount; rw [if_neg c1]) rfl hp
theorem n_foresee (hs : kS σ) {c n : Int32} {v : Option KV} {M' : KM} (hq : (∃ k, 1 ≤ k ∧ k ≤ 150 ∧ c = nI k ∧ (0 ≤ n ∧ n < 3) ∧ v = some (kI (if n = 0 then tStepsUp k σ else if n = 1 then tPeople (tSteps k σ) 0 else tCold (tSteps k σ) - tCold σ)) ∧ mPub D G σ 0 M') ∨ (¬ (1 ≤ c ∧ c ≤ 150) ∧ v = some (kI 0) ∧ mPub D G σ 1 M') ∨ ((1 ≤ c ∧ c ≤ 150) ∧ ¬ (0 ≤ n ∧ n < 3) ∧ v = some (kI 0) ∧ mPub D G σ 2 M')) : mAns D G (rForesee σ c n) v M' := by
  obtain ⟨bC, bL, bG, -⟩ := hs.1
  rcases hq with ⟨k, k1, k2, rfl, c2, rfl, hp⟩ | ⟨c1, rfl, hp⟩ | ⟨c1, c2, rfl, hp⟩
  · exact mAns.of (k := 0) (val := (if n = 0 then tStepsUp k σ else if n = 1 then tPeople (tSteps k σ) 0 else tCold (tSteps k σ) - tCold σ)) (show rForesee σ (nI k) n = (0, (if n = 0 then tStepsUp k σ else if n = 1 then tPeople (tSteps k σ) 0 else tCold (tSteps k σ) - tCold σ), σ) by unfold rForesee; rw [if_pos (show 1 ≤ nI k ∧ nI k ≤ 150 from rng1 (n := 150) k1 k2 (by decide)), if_pos c2, nI_clamp (by omega)]) rfl hp
  · exact mAns.of (k := 1) (val := 0) (show rForesee σ c n = (1, 0, σ) by unfold rForesee; rw [if_neg c1]) rfl hp
  · exact mAns.of (k := 2) (val := 0) (show rForesee σ c n = (2, 0, σ) by unfold rForesee; rw [if_pos c1, if_neg c2]) rfl hp
theorem n_when (hs : kS σ) {c : Int32} {v : Option KV} {M' : KM} (hq : (∃ g, g < tG σ ∧ c = nI g ∧ v = some (kI (if tZ σ 12 g = 2 then 0 else tUntil g 250 1 σ)) ∧ mPub D G σ 0 M') ∨ (¬ (0 ≤ c ∧ c < nI (tG σ)) ∧ v = some (kI 0) ∧ mPub D G σ 1 M')) : mAns D G (rWhen σ c) v M' := by
  obtain ⟨bC, bL, bG, -⟩ := hs.1
  rcases hq with ⟨g, hg, rfl, rfl, hp⟩ | ⟨c1, rfl, hp⟩
  · exact mAns.of (k := 0) (val := (if tZ σ 12 g = 2 then 0 else tUntil g 250 1 σ)) (show rWhen σ (nI g) = (0, (if tZ σ 12 g = 2 then 0 else tUntil g 250 1 σ), σ) by unfold rWhen; rw [if_pos (rng hg (by omega)), nI_clamp (by omega)]) rfl hp
  · exact mAns.of (k := 1) (val := 0) (show rWhen σ c = (1, 0, σ) by unfold rWhen; rw [if_neg c1]) rfl hp
theorem n_advise (hs : kS σ) {n : Int32} {v : Option KV} {M' : KM} (hq : ((1 ≤ n ∧ n ≤ 6) ∧ v = some (kI (tAdv σ n (tL σ) 0 (-1) 200)) ∧ mPub D G σ 0 M') ∨ (¬ (1 ≤ n ∧ n ≤ 6) ∧ v = some (kI 0) ∧ mPub D G σ 1 M')) : mAns D G (rAdvise σ n) v M' := by
  obtain ⟨bC, bL, bG, -⟩ := hs.1
  rcases hq with ⟨c1, rfl, hp⟩ | ⟨c1, rfl, hp⟩
  · exact mAns.of (k := 0) (val := tAdv σ n (tL σ) 0 (-1) 200) (show rAdvise σ n = (0, tAdv σ n (tL σ) 0 (-1) 200, σ) by unfold rAdvise; rw [if_pos c1]) rfl hp
  · exact mAns.of (k := 1) (val := 0) (show rAdvise σ n = (1, 0, σ) by unfold rAdvise; rw [if_neg c1]) rfl hp
theorem n_needs (hs : kS σ) {c n : Int32} {v : Option KV} {M' : KM} (hq : (∃ k, 1 ≤ k ∧ k ≤ 100 ∧ n = nI k ∧ (1 ≤ c ∧ c ≤ 500) ∧ v = some (kI (tNeeds σ c k (tC σ + 1) 0)) ∧ mPub D G σ 0 M') ∨ (¬ ((1 ≤ c ∧ c ≤ 500) ∧ 1 ≤ n ∧ n ≤ 100) ∧ v = some (kI 0) ∧ mPub D G σ 1 M')) : mAns D G (rNeeds σ c n) v M' := by
  obtain ⟨bC, bL, bG, -⟩ := hs.1
  rcases hq with ⟨k, k1, k2, rfl, c1, rfl, hp⟩ | ⟨c1, rfl, hp⟩
  · exact mAns.of (k := 0) (val := tNeeds σ c k (tC σ + 1) 0) (show rNeeds σ c (nI k) = (0, tNeeds σ c k (tC σ + 1) 0, σ) by unfold rNeeds; rw [if_pos ⟨c1, rng1 (n := 100) k1 k2 (by decide)⟩, nI_clamp (by omega)]) rfl hp
  · exact mAns.of (k := 1) (val := 0) (show rNeeds σ c n = (1, 0, σ) by unfold rNeeds; rw [if_neg c1]) rfl hp
end MANS

/-! Lift: a step, steps. -/
theorem fmod24_in (x : Int32) : ∃ n, n < 24 ∧ fmod24 x = nI n := by
  have hX1 : -2147483648 ≤ x.toInt := by have := Int32.le_toInt x; simpa using this
  have hX2 : x.toInt < 2147483648 := by have := Int32.toInt_lt x; simpa using this
  have hd : (x / 24).toInt = x.toInt.tdiv 24 := Int32.toInt_div_of_ne_right x 24 (by decide)
  have ht := Int.tmod_add_mul_tdiv x.toInt 24
  have h1 : x.toInt.tmod 24 < 24 := Int.tmod_lt_of_pos _ (by decide)
  have h2 : -24 < x.toInt.tmod 24 := Int.lt_tmod_of_pos _ (by decide)
  have hs1 : 0 ≤ x.toInt → 0 ≤ x.toInt.tmod 24 := fun h => Int.tmod_nonneg 24 h
  have hs2 : x.toInt ≤ 0 → x.toInt.tmod 24 ≤ 0 := fun h => by
    have := Int.tmod_nonneg (a := -x.toInt) 24 (by omega)
    rw [Int.neg_tmod] at this
    omega
  have hm : (x / 24 * 24).toInt = 24 * x.toInt.tdiv 24 := by
    rw [Int32.toInt_mul, hd, show (24 : Int32).toInt = 24 from rfl]
    rw [Int.bmod_eq_of_le (by omega) (by omega)]
    omega
  have hr : (x - x / 24 * 24).toInt = x.toInt.tmod 24 := by
    rw [Int32.toInt_sub, hm]
    rw [Int.bmod_eq_of_le (by omega) (by omega)]
    omega
  have hx : (x ^^^ 24 < 0) ↔ x.toInt < 0 := by
    rw [Int32.lt_iff_toInt_lt]
    have e1 : (x ^^^ 24).toInt < 0 ↔ (x ^^^ 24).toBitVec.msb = true := by
      show (x ^^^ 24).toBitVec.toInt < 0 ↔ _
      rw [BitVec.msb_eq_toInt, decide_eq_true_eq]
    have e2 : x.toInt < 0 ↔ x.toBitVec.msb = true := by
      show x.toBitVec.toInt < 0 ↔ _
      rw [BitVec.msb_eq_toInt, decide_eq_true_eq]
    rw [show (0 : Int32).toInt = 0 from rfl, e1, e2, Int32.toBitVec_xor, BitVec.msb_xor, show (24 : Int32).toBitVec.msb = false from rfl, Bool.xor_false]
  have fin : ∀ y : Int32, 0 ≤ y.toInt → y.toInt < 24 → ∃ n, n < 24 ∧ y = nI n := by
    intro y a b
    refine ⟨y.toInt.toNat, by omega, ?_⟩
    rw [← Int32.toInt_inj, nI_toInt (by omega)]
    omega
  unfold fmod24
  by_cases hc : (x ^^^ 24 < 0) ∧ ¬ (x - x / 24 * 24 = 0)
  · rw [if_pos hc]
    have hneg := hx.mp hc.1
    have hne : x.toInt.tmod 24 ≠ 0 := fun z => hc.2 (by rw [← Int32.toInt_inj, hr, z]; rfl)
    have hle : x.toInt.tmod 24 ≤ 0 := by
      have := Int.tmod_nonneg (a := -x.toInt) 24 (by omega)
      rw [Int.neg_tmod] at this
      omega
    have e : (x - x / 24 * 24 + 24).toInt = x.toInt.tmod 24 + 24 := by
      rw [Int32.toInt_add, hr, show (24 : Int32).toInt = 24 from rfl]
      exact Int.bmod_eq_of_le (by omega) (by omega)
    exact fin _ (by omega) (by omega)
  · rw [if_neg hc]
    have hge : 0 ≤ x.toInt.tmod 24 := by
      rcases (show x.toInt < 0 ∨ 0 ≤ x.toInt by omega) with h | h
      · have hz : x - x / 24 * 24 = 0 := Classical.byContradiction fun z => hc ⟨hx.mpr h, z⟩
        rw [hz] at hr
        rw [← hr]; decide
      · exact Int.tmod_nonneg 24 h
    exact fin _ (by omega) (by omega)
theorem s_floorMod (M : KM) (x : Int32) : SpQ mJ9_floorMod_7cf53 0 0 [kI x, kI 24] M (fun v M' => v = some (kI (fmod24 x)) ∧ M' = M) := by
  refine SpQ_of (own := 9) (ini := false) (by decide +kernel) rfl (by decide) (Nat.le_of_ble_eq_true rfl) ?_
  intro X hC hE hL0
  refine kwJ9_floorMod_7cf53_0 hC hE ?_
  simp only [kbJ9_floorMod_7cf53_0, mJ9_floorMod_7cf53, kblk, kstp, kent, kpad, kget, kst1, kst2, kc2, cond_false, cond_true, kfv, kfit, kOkf, kputv, kputD, kputG, kcpy, kcat, kRR, kNN, true_and, and_true, if_true, if_false, if_pos, Nat.reduceAdd, Nat.reduceEqDiff, Nat.reduceLeDiff, Nat.reduceLT, reduceIte, Prod.mk.injEq, eq_self, false_and, and_false, reduceCtorEq, Nat.reduceSub, List.reverse_cons, List.reverse_nil, List.nil_append, List.cons_append, Option.toList_some, Option.toList_none, not_true_eq_false, not_false_eq_true]
  refine ⟨by decide, fun h => ?_, fun h => ?_⟩
  · refine kwJ9_floorMod_7cf53_18 hC hE ?_
    simp only [kbJ9_floorMod_7cf53_18, mJ9_floorMod_7cf53, kblk, kstp, kent, kpad, kget, kst1, kst2, kc2, cond_false, cond_true, kfv, kfit, kOkf, kputv, kputD, kputG, kcpy, kcat, kRR, kNN, true_and, and_true, if_true, if_false, if_pos, Nat.reduceAdd, Nat.reduceEqDiff, Nat.reduceLeDiff, Nat.reduceLT, reduceIte, Prod.mk.injEq, eq_self, false_and, and_false, reduceCtorEq, Nat.reduceSub, List.reverse_cons, List.reverse_nil, List.nil_append, List.cons_append, Option.toList_some, Option.toList_none, not_true_eq_false, not_false_eq_true]
    refine ⟨⟨?_, rfl⟩, trivial, Nat.le_refl _, Nat.le_refl _⟩
    unfold fmod24
    rw [if_neg (fun z => absurd z.1 (Int32.not_lt.mpr h))]
  · refine kwJ9_floorMod_7cf53_10 hC hE ?_
    simp only [kbJ9_floorMod_7cf53_10, mJ9_floorMod_7cf53, kblk, kstp, kent, kpad, kget, kst1, kst2, kc2, cond_false, cond_true, kfv, kfit, kOkf, kputv, kputD, kputG, kcpy, kcat, kRR, kNN, true_and, and_true, if_true, if_false, if_pos, Nat.reduceAdd, Nat.reduceEqDiff, Nat.reduceLeDiff, Nat.reduceLT, reduceIte, Prod.mk.injEq, eq_self, false_and, and_false, reduceCtorEq, Nat.reduceSub, List.reverse_cons, List.reverse_nil, List.nil_append, List.cons_append, Option.toList_some, Option.toList_none, not_true_eq_false, not_false_eq_true]
    refine ⟨fun h2 => ?_, fun h2 => ?_⟩
    · refine kwJ9_floorMod_7cf53_18 hC hE ?_
      simp only [kbJ9_floorMod_7cf53_18, mJ9_floorMod_7cf53, kblk, kstp, kent, kpad, kget, kst1, kst2, kc2, cond_false, cond_true, kfv, kfit, kOkf, kputv, kputD, kputG, kcpy, kcat, kRR, kNN, true_and, and_true, if_true, if_false, if_pos, Nat.reduceAdd, Nat.reduceEqDiff, Nat.reduceLeDiff, Nat.reduceLT, reduceIte, Prod.mk.injEq, eq_self, false_and, and_false, reduceCtorEq, Nat.reduceSub, List.reverse_cons, List.reverse_nil, List.nil_append, List.cons_append, Option.toList_some, Option.toList_none, not_true_eq_false, not_false_eq_true]
      refine ⟨⟨?_, rfl⟩, trivial, Nat.le_refl _, Nat.le_refl _⟩
      unfold fmod24
      rw [if_neg (fun z => z.2 h2)]
    · refine kwJ9_floorMod_7cf53_14 hC hE ?_
      simp only [kbJ9_floorMod_7cf53_14, mJ9_floorMod_7cf53, kblk, kstp, kent, kpad, kget, kst1, kst2, kc2, cond_false, cond_true, kfv, kfit, kOkf, kputv, kputD, kputG, kcpy, kcat, kRR, kNN, true_and, and_true, if_true, if_false, if_pos, Nat.reduceAdd, Nat.reduceEqDiff, Nat.reduceLeDiff, Nat.reduceLT, reduceIte, Prod.mk.injEq, eq_self, false_and, and_false, reduceCtorEq, Nat.reduceSub, List.reverse_cons, List.reverse_nil, List.nil_append, List.cons_append, Option.toList_some, Option.toList_none, not_true_eq_false, not_false_eq_true]
      refine ⟨⟨?_, rfl⟩, trivial, Nat.le_refl _, Nat.le_refl _⟩
      unfold fmod24
      rw [if_pos ⟨Int32.not_le.mp h, h2⟩]
/-- what a step leaves alone ahead of its count -/
def kSame (σ' σ : KT) : Prop := tC σ' = tC σ ∧ tL σ' = tL σ ∧ tG σ' = tG σ ∧ ∀ f i, (f = 0 ∨ f = 10 ∨ f = 11 ∨ f = 15 ∨ f = 21 ∨ f = 38 ∨ f = 39 ∨ f = 41 ∨ f = 50) → tZ σ' f i = tZ σ f i
theorem kSame.refl {σ : KT} : kSame σ σ := ⟨rfl, rfl, rfl, fun _ _ _ => rfl⟩
theorem kSame.trans {σ1 σ2 σ3 : KT} (h1 : kSame σ1 σ2) (h2 : kSame σ2 σ3) : kSame σ1 σ3 := ⟨h1.1.trans h2.1, h1.2.1.trans h2.2.1, h1.2.2.1.trans h2.2.2.1, fun f i h => (h1.2.2.2 f i h).trans (h2.2.2.2 f i h)⟩
theorem same_set {σ : KT} {f i : Nat} {v : Int32} (h : ¬ (f = 0 ∨ f = 10 ∨ f = 11 ∨ f = 15 ∨ f = 21 ∨ f = 38 ∨ f = 39 ∨ f = 41 ∨ f = 50)) : kSame (tset σ f i v) σ :=
  ⟨rfl, rfl, rfl, fun a b hh => zup_ne (fun z => h (z ▸ hh))⟩
theorem same_setQ {σ : KT} {l : Nat} {xs : List Nat} : kSame (tsetQ σ l xs) σ := ⟨rfl, rfl, rfl, fun _ _ _ => rfl⟩
theorem same_setS {σ : KT} {xs : List Nat} : kSame (tsetS σ xs) σ := ⟨rfl, rfl, rfl, fun _ _ _ => rfl⟩
theorem same_take {σ : KT} {g : Nat} : kSame (takeOut σ g) σ := by
  unfold takeOut
  split
  · exact same_set (by decide)
  · exact (same_set (by decide)).trans same_setQ
theorem same_cool {σ : KT} {n : Nat} : kSame (coolTo σ n) σ := ⟨rfl, rfl, rfl, fun f i h => if_neg (fun z => by have := z.1; omega)⟩
theorem same_move {σ : KT} {n : Nat} : kSame (moveTo σ n) σ := ⟨rfl, rfl, rfl, fun f i h => if_neg (fun z => by have := z.1; omega)⟩
theorem same_unl {σ : KT} {t : Int32} {n : Nat} : kSame (unlTo σ t n) σ := ⟨rfl, rfl, rfl, fun f i h => if_neg (fun z => by have := z.1; omega)⟩
theorem same_unload {σ : KT} : kSame (tUnload σ) σ := by
  unfold tUnload
  split
  · exact kSame.refl
  · exact (same_set (by decide)).trans ((same_set (by decide)).trans same_unl)
theorem same_exch {σ : KT} : kSame (tExch σ) σ := by
  unfold tExch
  split
  · exact same_setS.trans (same_set (by decide))
  · split
    · split
      · exact kSame.refl
      · exact (same_set (by decide)).trans same_setS
    · exact kSame.refl
theorem same_board {σ : KT} {g c : Nat} : kSame (boardT σ g c) σ := by
  unfold boardT
  exact (same_set (by decide)).trans ((same_set (by decide)).trans ((same_set (by decide)).trans ((same_set (by decide)).trans ((same_set (by decide)).trans (same_take.trans ((same_set (by decide)).trans (same_set (by decide))))))))
theorem same_loads {c : Nat} : ∀ (k : Nat) (σ : KT) (n : Nat), kSame (loadT c k σ n).1 σ
  | 0, _, _ => kSame.refl
  | k + 1, σ, n => by
    simp only [loadT]
    split
    · exact kSame.refl
    · exact (same_loads k _ _).trans same_board
theorem same_load {σ : KT} : kSame (tLoad σ) σ := by
  unfold tLoad tLoadAt
  split
  · exact kSame.refl
  · split
    · exact same_loads _ _ _
    · exact (same_set (by decide)).trans (same_loads _ _ _)
theorem same_half {σ : KT} : kSame (tHalfStep σ) σ := by
  unfold tHalfStep tMove tStand
  split
  · split
    · exact same_cool.trans (same_set (by decide))
    · exact same_set (by decide)
  · exact same_load.trans (same_exch.trans (same_unload.trans same_move))
theorem same_send {σ : KT} {g : Nat} : kSame (sendT σ g) σ := (same_set (by decide)).trans same_take
theorem same_imp {σ : KT} : ∀ n, kSame (impTo σ n) σ
  | 0 => kSame.refl
  | n + 1 => by
    simp only [impTo]
    split
    · exact same_send.trans (same_imp n)
    · exact same_imp n
section STEPS
variable {D : KI → Nat → Int32} {G : KI → Nat → Int64} {L : Nat} {σ : KT}
theorem s_goOneStep (hL : L < 2) (hr : kRep L D σ) (hs : kS σ) : SpQ mX3_goOneStep 0 0 [kR (some (3, L, 0))] (km D G) (fun v M' => v = some (kI (tStepUp σ)) ∧ kTo L D G (tStep σ) M') := by
  refine SpQ_of (own := 3) (ini := false) (by decide +kernel) rfl (by decide) (Nat.le_of_ble_eq_true rfl) ?_
  intro X hC hE hL0
  have hlive : kLive (3, L, 0) := ⟨hL, rfl⟩
  have hlw : kLive (8, L, 0) := Or.inl ⟨hL, by omega⟩
  have h11 := hr.old.2.1 11 (by decide) (by decide)
  obtain ⟨w, hw, hwe⟩ := fmod24_in (tZ σ 41 0)
  have hwind := hr.old.2.2.2.2.2.1 w hw
  have hN := kN_wind hL
  have eW : tZ σ 50 w = tWind σ := by
    unfold tWind
    rw [hwe, nI_clamp (by omega)]
  rw [eW] at hwind
  have fin : ∀ (D' : KI → Nat → Int32) (up : Int32), kRep L D' (tHalfStep σ) → kOff L D' D → up = tStepUp σ → KW X 65 [some (kR (some (3, L, 0))), some (kI up), some (kI (tWind σ))] [] (km D' G) 0 0 := by
    intro D' up hr' ho hup
    refine kwX3_goOneStep_65 hC hE ?_
    simp only [kbX3_goOneStep_65, mX3_goOneStep, kblk, kstp, kent, kpad, kget, kst1, kst2, kc2, cond_false, cond_true, kfv, kfit, kOkf, kputv, kputD, kputG, kcpy, kcat, kRR, kNN, true_and, and_true, if_true, if_false, if_pos, Nat.reduceAdd, Nat.reduceEqDiff, Nat.reduceLeDiff, Nat.reduceLT, reduceIte, Prod.mk.injEq, eq_self, false_and, and_false, reduceCtorEq, Nat.reduceSub, List.reverse_cons, List.reverse_nil, List.nil_append, List.cons_append, Option.toList_some, Option.toList_none, not_true_eq_false, not_false_eq_true]
    refine KW_callV hC (by decide +kernel) kl3_150 (by decide) ((s_sendImpatient hL hr' hs.half)) rfl rfl (Nat.le_of_ble_eq_true rfl) rfl hlive (by simp [kOkL, kOk, hlive]) (by simp [kOkS]) (Nat.le_of_ble_eq_true rfl) (Nat.le_of_ble_eq_true rfl) (Nat.le_of_ble_eq_true rfl) ?_
    rintro v M' ⟨rfl, D2, rfl, hr2, ho2⟩
    rw [same_half.2.2.1] at hr2
    have q11 := hr2.old.2.1 11 (by decide) (by decide)
    rw [(same_imp _).2.2.2 _ _ (by decide), same_half.2.2.2 _ _ (by decide)] at q11
    refine kwX3_goOneStep_69 hC hE ?_
    simp only [kbX3_goOneStep_69, mX3_goOneStep, kblk, kstp, kent, kpad, kget, kst1, kst2, kc2, cond_false, cond_true, kfv, kfit, kOkf, kputv, kputD, kputG, kcpy, kcat, kRR, kNN, true_and, and_true, if_true, if_false, if_pos, Nat.reduceAdd, Nat.reduceEqDiff, Nat.reduceLeDiff, Nat.reduceLT, reduceIte, Prod.mk.injEq, eq_self, false_and, and_false, reduceCtorEq, Nat.reduceSub, List.reverse_cons, List.reverse_nil, List.nil_append, List.cons_append, Option.toList_some, Option.toList_none, not_true_eq_false, not_false_eq_true, hlive, q11]
    exact ⟨⟨by rw [hup], _, rfl, rep_scal hr2 11 _ (by decide) (by decide), kOff.put.trans (ho2.trans ho)⟩, trivial, Nat.le_refl _, Nat.le_refl _⟩
  refine kwX3_goOneStep_0 hC hE ?_
  simp only [kbX3_goOneStep_0, mX3_goOneStep, kblk, kstp, kent, kpad, kget, kst1, kst2, kc2, cond_false, cond_true, kfv, kfit, kOkf, kputv, kputD, kputG, kcpy, kcat, kRR, kNN, true_and, and_true, if_true, if_false, if_pos, Nat.reduceAdd, Nat.reduceEqDiff, Nat.reduceLeDiff, Nat.reduceLT, reduceIte, Prod.mk.injEq, eq_self, false_and, and_false, reduceCtorEq, Nat.reduceSub, List.reverse_cons, List.reverse_nil, List.nil_append, List.cons_append, Option.toList_some, Option.toList_none, not_true_eq_false, not_false_eq_true, hlive, h11]
  refine KW_callS hC (by decide +kernel) kl3_125 (by decide) ((s_floorMod (km D G) (tZ σ 41 0))) rfl rfl (by simp [kOkL, kOk, hlive]) (by simp [kOkS, kOk, hlw]) (Nat.le_of_ble_eq_true rfl) (Nat.le_of_ble_eq_true rfl) (Nat.le_of_ble_eq_true rfl) ?_
  rintro v M' ⟨rfl, rfl⟩
  rw [hwe]
  refine kwX3_goOneStep_15 hC hE ?_
  simp only [kbX3_goOneStep_15, mX3_goOneStep, kblk, kstp, kent, kpad, kget, kst1, kst2, kc2, cond_false, cond_true, kfv, kfit, kOkf, kputv, kputD, kputG, kcpy, kcat, kRR, kNN, true_and, and_true, if_true, if_false, if_pos, Nat.reduceAdd, Nat.reduceEqDiff, Nat.reduceLeDiff, Nat.reduceLT, reduceIte, Prod.mk.injEq, eq_self, false_and, and_false, reduceCtorEq, Nat.reduceSub, List.reverse_cons, List.reverse_nil, List.nil_append, List.cons_append, Option.toList_some, Option.toList_none, not_true_eq_false, not_false_eq_true, hlw, nI_clamp (show w < 2 ^ 31 by omega), hwind, hN]
  refine ⟨vp_in_nI hw (by omega), ?_⟩
  refine KW_callV hC (by decide +kernel) kl3_131 (by decide) ((s_ropeStands hL hr (tWind σ))) rfl rfl (Nat.le_of_ble_eq_true rfl) rfl hlive (by simp [kOkL, kOk, hlive]) (by simp [kOkS]) (Nat.le_of_ble_eq_true rfl) (Nat.le_of_ble_eq_true rfl) (Nat.le_of_ble_eq_true rfl) ?_
  rintro v M' ⟨rfl, rfl⟩
  refine kwX3_goOneStep_22 hC hE ?_
  simp only [kbX3_goOneStep_22, mX3_goOneStep, kblk, kstp, kent, kpad, kget, kst1, kst2, kc2, cond_false, cond_true, kfv, kfit, kOkf, kputv, kputD, kputG, kcpy, kcat, kRR, kNN, true_and, and_true, if_true, if_false, if_pos, Nat.reduceAdd, Nat.reduceEqDiff, Nat.reduceLeDiff, Nat.reduceLT, reduceIte, Prod.mk.injEq, eq_self, false_and, and_false, reduceCtorEq, Nat.reduceSub, List.reverse_cons, List.reverse_nil, List.nil_append, List.cons_append, Option.toList_some, Option.toList_none, not_true_eq_false, not_false_eq_true]
  by_cases hst : standsT σ (tWind σ)
  · rw [if_pos hst]
    refine ⟨fun h => absurd h (by decide), fun _ => ?_⟩
    have h12 := hr.old.2.1 12 (by decide) (by decide)
    have hr1 : kRep L (kput D (3, L, 0) 12 (tZ σ 42 0 + 1)) (tStand σ) := rep_scal hr 12 _ (by decide) (by decide)
    have hup : (0 : Int32) = tStepUp σ := by unfold tStepUp; exact (if_pos hst).symm
    refine kwX3_goOneStep_25 hC hE ?_
    simp only [kbX3_goOneStep_25, mX3_goOneStep, kblk, kstp, kent, kpad, kget, kst1, kst2, kc2, cond_false, cond_true, kfv, kfit, kOkf, kputv, kputD, kputG, kcpy, kcat, kRR, kNN, true_and, and_true, if_true, if_false, if_pos, Nat.reduceAdd, Nat.reduceEqDiff, Nat.reduceLeDiff, Nat.reduceLT, reduceIte, Prod.mk.injEq, eq_self, false_and, and_false, reduceCtorEq, Nat.reduceSub, List.reverse_cons, List.reverse_nil, List.nil_append, List.cons_append, Option.toList_some, Option.toList_none, not_true_eq_false, not_false_eq_true, hlive, h12]
    refine ⟨fun h => ?_, fun h => ?_⟩
    · refine fin _ _ ?_ kOff.put hup
      have : tHalfStep σ = tStand σ := by
        unfold tHalfStep
        exact (if_pos hst).trans (if_neg (Int32.not_le.mpr h))
      rw [this]
      exact hr1
    · refine kwX3_goOneStep_41 hC hE ?_
      simp only [kbX3_goOneStep_41, mX3_goOneStep, kblk, kstp, kent, kpad, kget, kst1, kst2, kc2, cond_false, cond_true, kfv, kfit, kOkf, kputv, kputD, kputG, kcpy, kcat, kRR, kNN, true_and, and_true, if_true, if_false, if_pos, Nat.reduceAdd, Nat.reduceEqDiff, Nat.reduceLeDiff, Nat.reduceLT, reduceIte, Prod.mk.injEq, eq_self, false_and, and_false, reduceCtorEq, Nat.reduceSub, List.reverse_cons, List.reverse_nil, List.nil_append, List.cons_append, Option.toList_some, Option.toList_none, not_true_eq_false, not_false_eq_true]
      refine KW_callV hC (by decide +kernel) kl3_135 (by decide) ((s_coolRiders hL hr1 (hs.setf (by decide) (by decide) (by decide) : kS (tStand σ)).1)) rfl rfl (Nat.le_of_ble_eq_true rfl) rfl hlive (by simp [kOkL, kOk, hlive]) (by simp [kOkS]) (Nat.le_of_ble_eq_true rfl) (Nat.le_of_ble_eq_true rfl) (Nat.le_of_ble_eq_true rfl) ?_
      rintro v M' ⟨rfl, D2, rfl, hr2, ho2⟩
      refine kwX3_goOneStep_45 hC hE ?_
      simp only [kbX3_goOneStep_45, mX3_goOneStep, kblk, kstp, kent, kpad, kget, kst1, kst2, kc2, cond_false, cond_true, kfv, kfit, kOkf, kputv, kputD, kputG, kcpy, kcat, kRR, kNN, true_and, and_true, if_true, if_false, if_pos, Nat.reduceAdd, Nat.reduceEqDiff, Nat.reduceLeDiff, Nat.reduceLT, reduceIte, Prod.mk.injEq, eq_self, false_and, and_false, reduceCtorEq, Nat.reduceSub, List.reverse_cons, List.reverse_nil, List.nil_append, List.cons_append, Option.toList_some, Option.toList_none, not_true_eq_false, not_false_eq_true]
      refine fin _ _ ?_ (ho2.trans kOff.put) hup
      have : tHalfStep σ = coolTo (tStand σ) (tG σ) := by
        unfold tHalfStep
        exact (if_pos hst).trans (if_pos (Int32.not_lt.mp h))
      rw [this]
      exact hr2
  · rw [if_neg hst]
    refine ⟨fun _ => ?_, fun h => absurd rfl h⟩
    have hup : tUp (moveTo σ (tC σ)) = tStepUp σ := by unfold tStepUp; exact (if_neg hst).symm
    have hhalf : tHalfStep σ = tMove σ := by unfold tHalfStep; exact if_neg hst
    refine kwX3_goOneStep_48 hC hE ?_
    simp only [kbX3_goOneStep_48, mX3_goOneStep, kblk, kstp, kent, kpad, kget, kst1, kst2, kc2, cond_false, cond_true, kfv, kfit, kOkf, kputv, kputD, kputG, kcpy, kcat, kRR, kNN, true_and, and_true, if_true, if_false, if_pos, Nat.reduceAdd, Nat.reduceEqDiff, Nat.reduceLeDiff, Nat.reduceLT, reduceIte, Prod.mk.injEq, eq_self, false_and, and_false, reduceCtorEq, Nat.reduceSub, List.reverse_cons, List.reverse_nil, List.nil_append, List.cons_append, Option.toList_some, Option.toList_none, not_true_eq_false, not_false_eq_true]
    refine KW_callV hC (by decide +kernel) kl3_138 (by decide) ((s_moveRope hL hr hs.1)) rfl rfl (Nat.le_of_ble_eq_true rfl) rfl hlive (by simp [kOkL, kOk, hlive]) (by simp [kOkS]) (Nat.le_of_ble_eq_true rfl) (Nat.le_of_ble_eq_true rfl) (Nat.le_of_ble_eq_true rfl) ?_
    rintro v M' ⟨rfl, D1, rfl, hr1, ho1⟩
    refine kwX3_goOneStep_52 hC hE ?_
    simp only [kbX3_goOneStep_52, mX3_goOneStep, kblk, kstp, kent, kpad, kget, kst1, kst2, kc2, cond_false, cond_true, kfv, kfit, kOkf, kputv, kputD, kputG, kcpy, kcat, kRR, kNN, true_and, and_true, if_true, if_false, if_pos, Nat.reduceAdd, Nat.reduceEqDiff, Nat.reduceLeDiff, Nat.reduceLT, reduceIte, Prod.mk.injEq, eq_self, false_and, and_false, reduceCtorEq, Nat.reduceSub, List.reverse_cons, List.reverse_nil, List.nil_append, List.cons_append, Option.toList_some, Option.toList_none, not_true_eq_false, not_false_eq_true]
    refine KW_callV hC (by decide +kernel) kl3_141 (by decide) ((s_unloadAtTop hL hr1 (hs.move _).1)) rfl rfl (Nat.le_of_ble_eq_true rfl) rfl hlive (by simp [kOkL, kOk, hlive]) (by simp [kOkS]) (Nat.le_of_ble_eq_true rfl) (Nat.le_of_ble_eq_true rfl) (Nat.le_of_ble_eq_true rfl) ?_
    rintro v M' ⟨rfl, D2, rfl, hr2, ho2⟩
    refine kwX3_goOneStep_56 hC hE ?_
    simp only [kbX3_goOneStep_56, mX3_goOneStep, kblk, kstp, kent, kpad, kget, kst1, kst2, kc2, cond_false, cond_true, kfv, kfit, kOkf, kputv, kputD, kputG, kcpy, kcat, kRR, kNN, true_and, and_true, if_true, if_false, if_pos, Nat.reduceAdd, Nat.reduceEqDiff, Nat.reduceLeDiff, Nat.reduceLT, reduceIte, Prod.mk.injEq, eq_self, false_and, and_false, reduceCtorEq, Nat.reduceSub, List.reverse_cons, List.reverse_nil, List.nil_append, List.cons_append, Option.toList_some, Option.toList_none, not_true_eq_false, not_false_eq_true]
    refine KW_callV hC (by decide +kernel) kl3_144 (by decide) ((s_exchange hL hr2 (hs.move _).unload)) rfl rfl (Nat.le_of_ble_eq_true rfl) rfl hlive (by simp [kOkL, kOk, hlive]) (by simp [kOkS]) (Nat.le_of_ble_eq_true rfl) (Nat.le_of_ble_eq_true rfl) (Nat.le_of_ble_eq_true rfl) ?_
    rintro v M' ⟨rfl, D3, rfl, hr3, ho3⟩
    refine kwX3_goOneStep_61 hC hE ?_
    simp only [kbX3_goOneStep_61, mX3_goOneStep, kblk, kstp, kent, kpad, kget, kst1, kst2, kc2, cond_false, cond_true, kfv, kfit, kOkf, kputv, kputD, kputG, kcpy, kcat, kRR, kNN, true_and, and_true, if_true, if_false, if_pos, Nat.reduceAdd, Nat.reduceEqDiff, Nat.reduceLeDiff, Nat.reduceLT, reduceIte, Prod.mk.injEq, eq_self, false_and, and_false, reduceCtorEq, Nat.reduceSub, List.reverse_cons, List.reverse_nil, List.nil_append, List.cons_append, Option.toList_some, Option.toList_none, not_true_eq_false, not_false_eq_true]
    refine KW_callV hC (by decide +kernel) kl3_147 (by decide) ((s_load hL hr3 (hs.move _).unload.exch)) rfl rfl (Nat.le_of_ble_eq_true rfl) rfl hlive (by simp [kOkL, kOk, hlive]) (by simp [kOkS]) (Nat.le_of_ble_eq_true rfl) (Nat.le_of_ble_eq_true rfl) (Nat.le_of_ble_eq_true rfl) ?_
    rintro v M' ⟨rfl, D4, rfl, hr4, ho4⟩
    refine fin _ _ ?_ (ho4.trans (ho3.trans (ho2.trans ho1))) hup
    rw [hhalf]
    exact hr4
theorem s_goSteps (hL : L < 2) (hr : kRep L D σ) (hs : kS σ) {n : Nat} (hn : n < 2 ^ 31) : SpQ mX3_goSteps 0 0 [kR (some (3, L, 0)), kI (nI n)] (km D G) (fun v M' => v = some (kI (tStepsUp n σ)) ∧ kTo L D G (tSteps n σ) M') := by
  refine SpQ_of (own := 3) (ini := false) (by decide +kernel) rfl (by decide) (Nat.le_of_ble_eq_true rfl) ?_
  intro X hC hE hL0
  have hlive : kLive (3, L, 0) := ⟨hL, rfl⟩
  have loop : ∀ (m i : Nat) (acc : Int32) (σ' : KT) (D' : KI → Nat → Int32), i + m = n → kS σ' → kRep L D' σ' → kOff L D' D → acc + tStepsUp m σ' = tStepsUp n σ → tSteps m σ' = tSteps n σ → KW X 4 [some (kR (some (3, L, 0))), some (kI (nI n)), some (kI acc), some (kI (nI i))] [] (km D' G) 0 0 := by
    intro m
    induction m with
    | zero =>
      intro i acc σ' D' him hs' hr' ho he1 he2
      have hi : i = n := by omega
      subst hi
      refine kwX3_goSteps_4 hC hE ?_
      simp only [kbX3_goSteps_4, mX3_goSteps, kblk, kstp, kent, kpad, kget, kst1, kst2, kc2, cond_false, cond_true, kfv, kfit, kOkf, kputv, kputD, kputG, kcpy, kcat, kRR, kNN, true_and, and_true, if_true, if_false, if_pos, Nat.reduceAdd, Nat.reduceEqDiff, Nat.reduceLeDiff, Nat.reduceLT, reduceIte, Prod.mk.injEq, eq_self, false_and, and_false, reduceCtorEq, Nat.reduceSub, List.reverse_cons, List.reverse_nil, List.nil_append, List.cons_append, Option.toList_some, Option.toList_none, not_true_eq_false, not_false_eq_true]
      refine ⟨fun _ => ?_, fun h => absurd (nI_le (Nat.le_refl _) hn) h⟩
      refine kwX3_goSteps_22 hC hE ?_
      simp only [kbX3_goSteps_22, mX3_goSteps, kblk, kstp, kent, kpad, kget, kst1, kst2, kc2, cond_false, cond_true, kfv, kfit, kOkf, kputv, kputD, kputG, kcpy, kcat, kRR, kNN, true_and, and_true, if_true, if_false, if_pos, Nat.reduceAdd, Nat.reduceEqDiff, Nat.reduceLeDiff, Nat.reduceLT, reduceIte, Prod.mk.injEq, eq_self, false_and, and_false, reduceCtorEq, Nat.reduceSub, List.reverse_cons, List.reverse_nil, List.nil_append, List.cons_append, Option.toList_some, Option.toList_none, not_true_eq_false, not_false_eq_true]
      refine ⟨⟨?_, _, rfl, ?_, ho⟩, trivial, Nat.le_refl _, Nat.le_refl _⟩
      · rw [← he1]
        exact congrArg (fun x => some (kI x)) (Int32.add_zero acc).symm
      · rw [← he2]
        exact hr'
    | succ m ih =>
      intro i acc σ' D' him hs' hr' ho he1 he2
      refine kwX3_goSteps_4 hC hE ?_
      simp only [kbX3_goSteps_4, mX3_goSteps, kblk, kstp, kent, kpad, kget, kst1, kst2, kc2, cond_false, cond_true, kfv, kfit, kOkf, kputv, kputD, kputG, kcpy, kcat, kRR, kNN, true_and, and_true, if_true, if_false, if_pos, Nat.reduceAdd, Nat.reduceEqDiff, Nat.reduceLeDiff, Nat.reduceLT, reduceIte, Prod.mk.injEq, eq_self, false_and, and_false, reduceCtorEq, Nat.reduceSub, List.reverse_cons, List.reverse_nil, List.nil_append, List.cons_append, Option.toList_some, Option.toList_none, not_true_eq_false, not_false_eq_true]
      refine ⟨fun h => absurd h (nI_ge (by omega) hn), fun _ => ?_⟩
      refine kwX3_goSteps_9 hC hE ?_
      simp only [kbX3_goSteps_9, mX3_goSteps, kblk, kstp, kent, kpad, kget, kst1, kst2, kc2, cond_false, cond_true, kfv, kfit, kOkf, kputv, kputD, kputG, kcpy, kcat, kRR, kNN, true_and, and_true, if_true, if_false, if_pos, Nat.reduceAdd, Nat.reduceEqDiff, Nat.reduceLeDiff, Nat.reduceLT, reduceIte, Prod.mk.injEq, eq_self, false_and, and_false, reduceCtorEq, Nat.reduceSub, List.reverse_cons, List.reverse_nil, List.nil_append, List.cons_append, Option.toList_some, Option.toList_none, not_true_eq_false, not_false_eq_true]
      refine KW_callV hC (by decide +kernel) kl3_121 (by decide) ((s_goOneStep hL hr' hs')) rfl rfl (Nat.le_of_ble_eq_true rfl) rfl hlive (by simp [kOkL, kOk, hlive]) (by simp [kOkS, kOk]) (Nat.le_of_ble_eq_true rfl) (Nat.le_of_ble_eq_true rfl) (Nat.le_of_ble_eq_true rfl) ?_
      rintro v M' ⟨rfl, D2, rfl, hr2, ho2⟩
      refine kwX3_goSteps_14 hC hE ?_
      simp only [kbX3_goSteps_14, mX3_goSteps, kblk, kstp, kent, kpad, kget, kst1, kst2, kc2, cond_false, cond_true, kfv, kfit, kOkf, kputv, kputD, kputG, kcpy, kcat, kRR, kNN, true_and, and_true, if_true, if_false, if_pos, Nat.reduceAdd, Nat.reduceEqDiff, Nat.reduceLeDiff, Nat.reduceLT, reduceIte, Prod.mk.injEq, eq_self, false_and, and_false, reduceCtorEq, Nat.reduceSub, List.reverse_cons, List.reverse_nil, List.nil_append, List.cons_append, Option.toList_some, Option.toList_none, not_true_eq_false, not_false_eq_true, nI_1]
      refine ih (i + 1) _ (tStep σ') D2 (by omega) hs'.step hr2 (ho2.trans ho) ?_ he2
      rw [← he1, Int32.add_assoc]
      rfl
  refine kwX3_goSteps_0 hC hE ?_
  simp only [kbX3_goSteps_0, mX3_goSteps, kblk, kstp, kent, kpad, kget, kst1, kst2, kc2, cond_false, cond_true, kfv, kfit, kOkf, kputv, kputD, kputG, kcpy, kcat, kRR, kNN, true_and, and_true, if_true, if_false, if_pos, Nat.reduceAdd, Nat.reduceEqDiff, Nat.reduceLeDiff, Nat.reduceLT, reduceIte, Prod.mk.injEq, eq_self, false_and, and_false, reduceCtorEq, Nat.reduceSub, List.reverse_cons, List.reverse_nil, List.nil_append, List.cons_append, Option.toList_some, Option.toList_none, not_true_eq_false, not_false_eq_true]
  exact loop n 0 0 σ D (by omega) hs hr kOff.refl (Int32.zero_add _) rfl
/-- steps until g is up, at most m more, from the i-th on -/
def tUntil (g : Nat) : Nat → Nat → KT → Int32
  | 0, _, _ => -1
  | m + 1, i, σ => if tZ σ 12 g = 3 then -1 else if tZ (tStep σ) 12 g = 2 then nI i else tUntil g m (i + 1) (tStep σ)
theorem tG_tStep {σ : KT} : tG (tStep σ) = tG σ := (tG_impTo _).trans tG_tHalfStep
theorem s_stepsUntilUp (hL : L < 2) (hr : kRep L D σ) (hs : kS σ) {g n : Nat} (hg : g < tG σ) (hn : n < 2 ^ 30) : SpQ mX3_stepsUntilUp 0 0 [kR (some (3, L, 0)), kI (nI g), kI (nI n)] (km D G) (fun v M' => v = some (kI (tUntil g n 1 σ)) ∧ ∃ σ', kTo L D G σ' M') := by
  refine SpQ_of (own := 3) (ini := false) (by decide +kernel) rfl (by decide) (Nat.le_of_ble_eq_true rfl) ?_
  intro X hC hE hL0
  have hb3 := hs.1.2.2.1
  have hlive : kLive (3, L, 0) := ⟨hL, rfl⟩
  have hlive10 : kLive (10, L, 0) := ⟨hL, rfl⟩
  have hg91 : g < 91 := by omega
  have hlg : kLive (1, L, g) := ⟨hL, hg91⟩
  have no : ∀ (σ' : KT) (D' : KI → Nat → Int32) (i : Nat), kRep L D' σ' → kOff L D' D → tUntil g n 1 σ = -1 → KW X 46 [some (kR (some (3, L, 0))), some (kI (nI g)), some (kI (nI n)), some (kR (some (1, L, g))), some (kI (nI i))] [] (km D' G) 0 0 := by
    intro σ' D' i hr' ho he
    refine kwX3_stepsUntilUp_46 hC hE ?_
    simp only [kbX3_stepsUntilUp_46, mX3_stepsUntilUp, kblk, kstp, kent, kpad, kget, kst1, kst2, kc2, cond_false, cond_true, kfv, kfit, kOkf, kputv, kputD, kputG, kcpy, kcat, kRR, kNN, true_and, and_true, if_true, if_false, if_pos, Nat.reduceAdd, Nat.reduceEqDiff, Nat.reduceLeDiff, Nat.reduceLT, reduceIte, Prod.mk.injEq, eq_self, false_and, and_false, reduceCtorEq, Nat.reduceSub, List.reverse_cons, List.reverse_nil, List.nil_append, List.cons_append, Option.toList_some, Option.toList_none, not_true_eq_false, not_false_eq_true]
    exact ⟨⟨by rw [he], σ', D', rfl, hr', ho⟩, trivial, Nat.le_refl _, Nat.le_refl _⟩
  have loop : ∀ (m i : Nat) (σ' : KT) (D' : KI → Nat → Int32), i + m = n + 1 → g < tG σ' → kS σ' → kRep L D' σ' → kOff L D' D → tUntil g m i σ' = tUntil g n 1 σ → KW X 10 [some (kR (some (3, L, 0))), some (kI (nI g)), some (kI (nI n)), some (kR (some (1, L, g))), some (kI (nI i))] [] (km D' G) 0 0 := by
    intro m
    induction m with
    | zero =>
      intro i σ' D' him hg' hs' hr' ho he
      refine kwX3_stepsUntilUp_10 hC hE ?_
      simp only [kbX3_stepsUntilUp_10, mX3_stepsUntilUp, kblk, kstp, kent, kpad, kget, kst1, kst2, kc2, cond_false, cond_true, kfv, kfit, kOkf, kputv, kputD, kputG, kcpy, kcat, kRR, kNN, true_and, and_true, if_true, if_false, if_pos, Nat.reduceAdd, Nat.reduceEqDiff, Nat.reduceLeDiff, Nat.reduceLT, reduceIte, Prod.mk.injEq, eq_self, false_and, and_false, reduceCtorEq, Nat.reduceSub, List.reverse_cons, List.reverse_nil, List.nil_append, List.cons_append, Option.toList_some, Option.toList_none, not_true_eq_false, not_false_eq_true]
      exact ⟨fun _ => no σ' D' i hr' ho (by rw [← he]; rfl), fun h => absurd (nI_lt (show n < i by omega) (by omega)) h⟩
    | succ m ih =>
      intro i σ' D' him hg' hs' hr' ho he
      have q2 := hr'.old.2.2.2.1 g hg' 2 (by decide)
      simp only [tUntil] at he
      refine kwX3_stepsUntilUp_10 hC hE ?_
      simp only [kbX3_stepsUntilUp_10, mX3_stepsUntilUp, kblk, kstp, kent, kpad, kget, kst1, kst2, kc2, cond_false, cond_true, kfv, kfit, kOkf, kputv, kputD, kputG, kcpy, kcat, kRR, kNN, true_and, and_true, if_true, if_false, if_pos, Nat.reduceAdd, Nat.reduceEqDiff, Nat.reduceLeDiff, Nat.reduceLT, reduceIte, Prod.mk.injEq, eq_self, false_and, and_false, reduceCtorEq, Nat.reduceSub, List.reverse_cons, List.reverse_nil, List.nil_append, List.cons_append, Option.toList_some, Option.toList_none, not_true_eq_false, not_false_eq_true]
      refine ⟨fun h => absurd (nI_ltr (by omega) (by omega) h) (by omega), fun _ => ?_⟩
      refine kwX3_stepsUntilUp_16 hC hE ?_
      simp only [kbX3_stepsUntilUp_16, mX3_stepsUntilUp, kblk, kstp, kent, kpad, kget, kst1, kst2, kc2, cond_false, cond_true, kfv, kfit, kOkf, kputv, kputD, kputG, kcpy, kcat, kRR, kNN, true_and, and_true, if_true, if_false, if_pos, Nat.reduceAdd, Nat.reduceEqDiff, Nat.reduceLeDiff, Nat.reduceLT, reduceIte, Prod.mk.injEq, eq_self, false_and, and_false, reduceCtorEq, Nat.reduceSub, List.reverse_cons, List.reverse_nil, List.nil_append, List.cons_append, Option.toList_some, Option.toList_none, not_true_eq_false, not_false_eq_true, hlg, q2]
      refine ⟨fun h => no σ' D' i hr' ho (by rw [← he]; exact if_pos h), fun h => ?_⟩
      have h' : ¬ tZ σ' 12 g = 3 := h
      rw [if_neg h'] at he
      refine kwX3_stepsUntilUp_24 hC hE ?_
      simp only [kbX3_stepsUntilUp_24, mX3_stepsUntilUp, kblk, kstp, kent, kpad, kget, kst1, kst2, kc2, cond_false, cond_true, kfv, kfit, kOkf, kputv, kputD, kputG, kcpy, kcat, kRR, kNN, true_and, and_true, if_true, if_false, if_pos, Nat.reduceAdd, Nat.reduceEqDiff, Nat.reduceLeDiff, Nat.reduceLT, reduceIte, Prod.mk.injEq, eq_self, false_and, and_false, reduceCtorEq, Nat.reduceSub, List.reverse_cons, List.reverse_nil, List.nil_append, List.cons_append, Option.toList_some, Option.toList_none, not_true_eq_false, not_false_eq_true]
      refine KW_callV hC (by decide +kernel) kl3_121 (by decide) ((s_goOneStep hL hr' hs')) rfl rfl (Nat.le_of_ble_eq_true rfl) rfl hlive (by simp [kOkL, kOk, hlive, hlg]) (by simp [kOkS, kOk]) (Nat.le_of_ble_eq_true rfl) (Nat.le_of_ble_eq_true rfl) (Nat.le_of_ble_eq_true rfl) ?_
      rintro v M' ⟨rfl, D2, rfl, hr2, ho2⟩
      have hg2 : g < tG (tStep σ') := by rw [tG_tStep]; exact hg'
      have p2 := hr2.old.2.2.2.1 g hg2 2 (by decide)
      refine kwX3_stepsUntilUp_28 hC hE ?_
      simp only [kbX3_stepsUntilUp_28, mX3_stepsUntilUp, kblk, kstp, kent, kpad, kget, kst1, kst2, kc2, cond_false, cond_true, kfv, kfit, kOkf, kputv, kputD, kputG, kcpy, kcat, kRR, kNN, true_and, and_true, if_true, if_false, if_pos, Nat.reduceAdd, Nat.reduceEqDiff, Nat.reduceLeDiff, Nat.reduceLT, reduceIte, Prod.mk.injEq, eq_self, false_and, and_false, reduceCtorEq, Nat.reduceSub, List.reverse_cons, List.reverse_nil, List.nil_append, List.cons_append, Option.toList_some, Option.toList_none, not_true_eq_false, not_false_eq_true, hlg, p2]
      refine ⟨fun h2 => ?_, fun h2 => ?_⟩
      · have h2' : ¬ tZ (tStep σ') 12 g = 2 := h2
        rw [if_neg h2'] at he
        refine kwX3_stepsUntilUp_40 hC hE ?_
        simp only [kbX3_stepsUntilUp_40, mX3_stepsUntilUp, kblk, kstp, kent, kpad, kget, kst1, kst2, kc2, cond_false, cond_true, kfv, kfit, kOkf, kputv, kputD, kputG, kcpy, kcat, kRR, kNN, true_and, and_true, if_true, if_false, if_pos, Nat.reduceAdd, Nat.reduceEqDiff, Nat.reduceLeDiff, Nat.reduceLT, reduceIte, Prod.mk.injEq, eq_self, false_and, and_false, reduceCtorEq, Nat.reduceSub, List.reverse_cons, List.reverse_nil, List.nil_append, List.cons_append, Option.toList_some, Option.toList_none, not_true_eq_false, not_false_eq_true, nI_1]
        exact ih (i + 1) (tStep σ') D2 (by omega) hg2 hs'.step hr2 (ho2.trans ho) he
      · have h2' : tZ (tStep σ') 12 g = 2 := h2
        rw [if_pos h2'] at he
        refine kwX3_stepsUntilUp_37 hC hE ?_
        simp only [kbX3_stepsUntilUp_37, mX3_stepsUntilUp, kblk, kstp, kent, kpad, kget, kst1, kst2, kc2, cond_false, cond_true, kfv, kfit, kOkf, kputv, kputD, kputG, kcpy, kcat, kRR, kNN, true_and, and_true, if_true, if_false, if_pos, Nat.reduceAdd, Nat.reduceEqDiff, Nat.reduceLeDiff, Nat.reduceLT, reduceIte, Prod.mk.injEq, eq_self, false_and, and_false, reduceCtorEq, Nat.reduceSub, List.reverse_cons, List.reverse_nil, List.nil_append, List.cons_append, Option.toList_some, Option.toList_none, not_true_eq_false, not_false_eq_true]
        exact ⟨⟨by rw [he], _, _, rfl, hr2, ho2.trans ho⟩, trivial, Nat.le_refl _, Nat.le_refl _⟩
  refine kwX3_stepsUntilUp_0 hC hE ?_
  simp only [kbX3_stepsUntilUp_0, mX3_stepsUntilUp, kblk, kstp, kent, kpad, kget, kst1, kst2, kc2, cond_false, cond_true, kfv, kfit, kOkf, kputv, kputD, kputG, kcpy, kcat, kRR, kNN, true_and, and_true, if_true, if_false, if_pos, Nat.reduceAdd, Nat.reduceEqDiff, Nat.reduceLeDiff, Nat.reduceLT, reduceIte, Prod.mk.injEq, eq_self, false_and, and_false, reduceCtorEq, Nat.reduceSub, List.reverse_cons, List.reverse_nil, List.nil_append, List.cons_append, Option.toList_some, Option.toList_none, not_true_eq_false, not_false_eq_true, hlive, hlive10, nI_clamp (show g < 2 ^ 31 by omega), hg91, hlg, true_or, or_true]
  exact ⟨vp_in_nI hg91 (by omega), loop n 1 σ D (by omega) hg hs hr kOff.refl rfl⟩
end STEPS

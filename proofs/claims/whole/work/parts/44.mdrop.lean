/-! The reference: out of a queue. -/
theorem filt_get {g : Nat} : ∀ (xs : List Nat) (pos : Nat), xs.Nodup → xs[pos]? = some g → (xs.filter (fun a => decide (a ≠ g))).length + 1 = xs.length ∧ ∀ i, (xs.filter (fun a => decide (a ≠ g)))[i]? = if i < pos then xs[i]? else xs[i + 1]?
  | [], pos, _, h => by simp at h
  | a :: r, 0, hn, h => by
    have ha : a = g := by simpa using h
    subst ha
    rw [List.nodup_cons] at hn
    have e : r.filter (fun x => decide (x ≠ a)) = r := List.filter_eq_self.mpr (fun x hx => by
      have : x ≠ a := fun z => hn.1 (z ▸ hx)
      simpa using this)
    rw [List.filter_cons_of_neg (by simp), e]
    exact ⟨by simp, fun i => by simp⟩
  | a :: r, pos + 1, hn, h => by
    rw [List.nodup_cons] at hn
    have hr : r[pos]? = some g := by simpa using h
    have ha : a ≠ g := fun z => hn.1 (by rw [z]; exact List.mem_of_getElem? hr)
    obtain ⟨h1, h2⟩ := filt_get r pos hn.2 hr
    rw [List.filter_cons_of_pos (by simpa using ha)]
    refine ⟨by simp only [List.length_cons]; omega, fun i => ?_⟩
    cases i with
    | zero => simp
    | succ i =>
      rw [List.getElem?_cons_succ, h2 i]
      by_cases hi : i < pos
      · rw [if_pos hi, if_pos (by omega), List.getElem?_cons_succ]
      · rw [if_neg hi, if_neg (by omega), List.getElem?_cons_succ]
theorem nI_subn {a b : Nat} (h : b ≤ a) : nI a - nI b = nI (a - b) := by
  have : nI a = nI (a - b) + nI b := by rw [nI_add]; congr 1; omega
  rw [this]
  exact Int32.add_sub_cancel _ _
section MDROP
variable {D : KI → Nat → Int32} {G : KI → Nat → Int64} {P : Nat} {σ : KT}
theorem m_drop (hP : P = 2 ∨ P = 3) (hm : mSt P D σ) (hq : qOK σ) {g l : Nat} (hg : g < tG σ) (hg91 : tG σ ≤ 91) (hl : l < 4) (hz : tZ σ 13 g = nI l) (hmem : g ∈ tQ σ l) (hnd : (tQ σ l).Nodup) (hlt : ∀ x ∈ tQ σ l, x < 91) : SpQ mX6_drop 0 0 [kR (some (6, P, 0)), kI (nI g)] (km D G) (fun v M' => v = some (kI (nI l)) ∧ mTo P D G (takeOut σ g) M') := by
  refine SpQ_of (own := 6) (ini := false) (by decide +kernel) rfl (by decide) (Nat.le_of_ble_eq_true rfl) ?_
  intro X hC hE hL0
  obtain ⟨pos, hpos, hxp⟩ := List.getElem_of_mem hmem
  have hxp2 : (tQ σ l)[pos]? = some g := by rw [List.getElem?_eq_getElem hpos, hxp]
  have hlen := hq l hl
  have hx := mLive hP
  have l18 := mLive8 (k := 18) hP (by decide) (by decide)
  have l13 := mLive8 (k := 13) hP (by decide) (by decide)
  have l14 := mLive8 (k := 14) hP (by decide) (by decide)
  have n18 := kN8_P (k := 18) hP
  have n13 := kN8_P (k := 13) hP
  have n14 := kN8_P (k := 14) hP
  simp only [Nat.reduceLT, Nat.reduceEqDiff, if_false, if_true] at n18 n13 n14
  have hcg := nI_clamp (show g < 2 ^ 31 by omega)
  have hcl := nI_clamp (show l < 2 ^ 31 by omega)
  have q18 : D (8, P, 18) g = nI l := by
    rw [(hm.2.2.2.2.2.2.2 g hg).2.2.2.2.2.2.1 (by rw [hz]; exact nI_m1 (by omega))]
    exact hz
  have q13 := hm.2.2.2.2.2.1 l hl
  have q14 := hm.2.2.2.2.2.2.1 l hl
  have hbase : (91 : Int32) * nI l = nI (91 * l) := by rw [show (91 : Int32) = nI 91 from rfl, nI_mul]
  have fin : KW X 34 [some (kR (some (6, P, 0))), some (kI (nI g)), some (kI (nI l)), some (kI (nI (91 * l))), some (kI (nI pos))] [] (km D G) 0 0 := by
    have hs1 : nI (tQ σ l).length - 1 = nI ((tQ σ l).length - 1) := nI_subn (b := 1) (by omega)
    have hs2 : nI ((tQ σ l).length - 1) - nI pos = nI ((tQ σ l).length - 1 - pos) := nI_subn (by omega)
    have e1 : kput D (8, P, 13) l (nI ((tQ σ l).length - 1)) (8, P, 13) l = nI ((tQ σ l).length - 1) := by simp [kput]
    have c1 := nI_clamp (show 91 * l + pos + 1 < 2 ^ 31 by omega)
    have c2 := nI_clamp (show 91 * l + pos < 2 ^ 31 by omega)
    have c3 := nI_clamp (show (tQ σ l).length - 1 - pos < 2 ^ 31 by omega)
    refine kwX6_drop_34 hC hE ?_
    simp only [kbX6_drop_34, mX6_drop, kblk, kstp, kent, kpad, kget, kst1, kst2, kc2, cond_false, cond_true, kfv, kfit, kOkf, kputv, kputD, kputG, kcpy, kcat, kRR, kNN, true_and, and_true, if_true, if_false, if_pos, Nat.reduceAdd, Nat.reduceEqDiff, Nat.reduceLeDiff, Nat.reduceLT, reduceIte, Prod.mk.injEq, eq_self, false_and, and_false, reduceCtorEq, Nat.reduceSub, List.reverse_cons, List.reverse_nil, List.nil_append, List.cons_append, Option.toList_some, Option.toList_none, not_true_eq_false, not_false_eq_true, hx, l13, l14, n13, n14, hcl, q13, hs1, hs2, e1, nI_add, nI_1, c1, c2, c3, kroom]
    refine ⟨vp_in_nI hl (by omega), vp_in_nI hl (by omega), vp_in_nI hl (by omega), ?_⟩
    refine ⟨nI_pos (by omega), nI_pos (by omega), nI_pos (by omega), by omega, by omega, by decide, ?_⟩
    refine ⟨⟨rfl, _, rfl, ⟨?_, ?_⟩, ?_⟩, trivial, Nat.le_refl _, Nat.le_refl _⟩
    · rw [takeOut_some hz (by omega)]
      refine mSc_free (σ := tsetQ σ l _) ?_ 13 g (-1) (by decide)
      have e : ∀ f j, kset (kput D (8, P, 13) l (nI ((tQ σ l).length - 1))) (8, P, 14) f (6, P, 0) j = D (6, P, 0) j := fun f j => by simp [kset, kput]
      simp only [mSc, e]
      exact hm.1
    · rw [takeOut_some hz (by omega)]
      obtain ⟨f1, f2⟩ := filt_get (tQ σ l) pos hnd hxp2
      refine mArr_m1 (mArr_queue hm.2 hq hl ?_ ?_ ?_ ?_ ?_) 13 g (by decide)
      · simp only [kset, kput, Prod.mk.injEq, Nat.reduceEqDiff, and_false, true_and, if_false, if_true]
        congr 1
        omega
      · intro i x hi
        have hil := (List.getElem?_eq_some_iff.mp hi).1
        rw [f2 i] at hi
        simp only [kset, if_true, va_cpy]
        by_cases hip : i < pos
        · rw [if_pos hip] at hi
          rw [if_neg (by omega)]
          have := q14 i x hi
          simp [kput, this]
        · rw [if_neg hip] at hi
          rw [if_pos (by omega)]
          have hidx : 91 * l + pos + 1 + (91 * l + i - (91 * l + pos)) = 91 * l + (i + 1) := by omega
          rw [hidx]
          have := q14 (i + 1) x hi
          simp [kput, this]
      · intro k h13 h14
        funext j
        simp [kset, kput, h13, h14]
      · intro a ha
        simp [kset, kput, ha]
      · intro j hj
        simp only [kset, if_true, va_cpy]
        rw [if_neg (by omega)]
        simp [kput]
    · intro i hi
      funext j
      have h1 : i ≠ (8, P, 14) := fun z => hi (by rw [z])
      have h2 : i ≠ (8, P, 13) := fun z => hi (by rw [z])
      simp [kset, kput, h1, h2]
  have loop : ∀ (m i : Nat), i + m = pos → KW X 15 [some (kR (some (6, P, 0))), some (kI (nI g)), some (kI (nI l)), some (kI (nI (91 * l))), some (kI (nI i))] [] (km D G) 0 0 := by
    intro m
    induction m with
    | zero =>
      intro i him
      have hi : i = pos := by omega
      subst hi
      have hv := q14 i g hxp2
      refine kwX6_drop_15 hC hE ?_
      simp only [kbX6_drop_15, mX6_drop, kblk, kstp, kent, kpad, kget, kst1, kst2, kc2, cond_false, cond_true, kfv, kfit, kOkf, kputv, kputD, kputG, kcpy, kcat, kRR, kNN, true_and, and_true, if_true, if_false, if_pos, Nat.reduceAdd, Nat.reduceEqDiff, Nat.reduceLeDiff, Nat.reduceLT, reduceIte, Prod.mk.injEq, eq_self, false_and, and_false, reduceCtorEq, Nat.reduceSub, List.reverse_cons, List.reverse_nil, List.nil_append, List.cons_append, Option.toList_some, Option.toList_none, not_true_eq_false, not_false_eq_true, hx, l14, n14, nI_add, nI_clamp (show 91 * l + i < 2 ^ 31 by omega), hv]
      exact ⟨vp_in_nI (show 91 * l + i < 364 by omega) (by omega), fun _ => fin, fun h => h.elim⟩
    | succ m ih =>
      intro i him
      have hi : i < (tQ σ l).length := by omega
      have hv := q14 i _ (List.getElem?_eq_getElem hi)
      have hne : (tQ σ l)[i] ≠ g := by
        have := List.pairwise_iff_getElem.mp hnd i pos hi hpos (by omega)
        rw [hxp] at this
        exact this
      have hlt2 := hlt _ (List.getElem_mem hi)
      refine kwX6_drop_15 hC hE ?_
      simp only [kbX6_drop_15, mX6_drop, kblk, kstp, kent, kpad, kget, kst1, kst2, kc2, cond_false, cond_true, kfv, kfit, kOkf, kputv, kputD, kputG, kcpy, kcat, kRR, kNN, true_and, and_true, if_true, if_false, if_pos, Nat.reduceAdd, Nat.reduceEqDiff, Nat.reduceLeDiff, Nat.reduceLT, reduceIte, Prod.mk.injEq, eq_self, false_and, and_false, reduceCtorEq, Nat.reduceSub, List.reverse_cons, List.reverse_nil, List.nil_append, List.cons_append, Option.toList_some, Option.toList_none, not_true_eq_false, not_false_eq_true, hx, l14, n14, nI_add, nI_clamp (show 91 * l + i < 2 ^ 31 by omega), hv]
      refine ⟨vp_in_nI (show 91 * l + i < 364 by omega) (by omega), fun h => absurd ((nI_eq (by omega) (by omega)).mp h) hne, fun _ => ?_⟩
      refine kwX6_drop_28 hC hE ?_
      simp only [kbX6_drop_28, mX6_drop, kblk, kstp, kent, kpad, kget, kst1, kst2, kc2, cond_false, cond_true, kfv, kfit, kOkf, kputv, kputD, kputG, kcpy, kcat, kRR, kNN, true_and, and_true, if_true, if_false, if_pos, Nat.reduceAdd, Nat.reduceEqDiff, Nat.reduceLeDiff, Nat.reduceLT, reduceIte, Prod.mk.injEq, eq_self, false_and, and_false, reduceCtorEq, Nat.reduceSub, List.reverse_cons, List.reverse_nil, List.nil_append, List.cons_append, Option.toList_some, Option.toList_none, not_true_eq_false, not_false_eq_true, nI_1]
      exact ih (i + 1) (by omega)
  refine kwX6_drop_0 hC hE ?_
  simp only [kbX6_drop_0, mX6_drop, kblk, kstp, kent, kpad, kget, kst1, kst2, kc2, cond_false, cond_true, kfv, kfit, kOkf, kputv, kputD, kputG, kcpy, kcat, kRR, kNN, true_and, and_true, if_true, if_false, if_pos, Nat.reduceAdd, Nat.reduceEqDiff, Nat.reduceLeDiff, Nat.reduceLT, reduceIte, Prod.mk.injEq, eq_self, false_and, and_false, reduceCtorEq, Nat.reduceSub, List.reverse_cons, List.reverse_nil, List.nil_append, List.cons_append, Option.toList_some, Option.toList_none, not_true_eq_false, not_false_eq_true, hx, l18, n18, hcg, q18, hbase]
  exact ⟨vp_in_nI (show g < 91 by omega) (by omega), loop pos 0 (by omega)⟩
end MDROP

/-! The reference: queues. -/
theorem nI_mul (a b : Nat) : nI a * nI b = nI (a * b) := (Int32.ofNat_mul a b).symm
theorem e91 (l n : Nat) : (91 : Int32) * nI l + nI n = nI (91 * l + n) := by
  rw [show (91 : Int32) = nI 91 from rfl, nI_mul, nI_add]
section MQUEUE
variable {D : KI → Nat → Int32} {G : KI → Nat → Int64} {P : Nat} {σ : KT}
def qOK (σ : KT) : Prop := ∀ l, l < 4 → (tQ σ l).length ≤ 91
theorem mArr_queue {D' : KI → Nat → Int32} {l : Nat} {xs : List Nat} (h : mArr P D σ) (hq : qOK σ) (hl : l < 4) (h13 : D' (8, P, 13) l = nI xs.length) (h14 : ∀ i x, xs[i]? = some x → D' (8, P, 14) (91 * l + i) = nI x)
    (o : ∀ k, k ≠ 13 → k ≠ 14 → D' (8, P, k) = D (8, P, k)) (o13 : ∀ a, a ≠ l → D' (8, P, 13) a = D (8, P, 13) a) (o14 : ∀ j, j < 91 * l ∨ 91 * l + 91 ≤ j → D' (8, P, 14) j = D (8, P, 14) j) : mArr P D' (tsetQ σ l xs) := by
  obtain ⟨a9, a10, a11, a12, a13, a14, hg⟩ := h
  refine ⟨fun j x hx => by rw [o 9 (by decide) (by decide)]; exact a9 j x hx, fun c hc => by rw [o 10 (by decide) (by decide)]; exact a10 c hc, fun c hc => by rw [o 11 (by decide) (by decide)]; exact a11 c hc, fun c hc => by rw [o 12 (by decide) (by decide)]; exact a12 c hc, fun b hb => ?_, fun b hb j x hx => ?_, fun g hgg => ?_⟩
  · rw [tQ_tsetQ]
    by_cases hbl : b = l
    · subst hbl; rw [qup_eq]; exact h13
    · rw [qup_ne hbl, o13 b hbl]; exact a13 b hb
  · rw [tQ_tsetQ] at hx
    by_cases hbl : b = l
    · subst hbl; rw [qup_eq] at hx; exact h14 j x hx
    · rw [qup_ne hbl] at hx
      have hj : j < (tQ σ b).length := (List.getElem?_eq_some_iff.mp hx).1
      have := hq b hb
      rw [o14 _ (by omega)]
      exact a14 b hb j x hx
  · have := hg g hgg
    simp only [mGr] at this ⊢
    rw [o 15 (by decide) (by decide), o 16 (by decide) (by decide), o 17 (by decide) (by decide), o 18 (by decide) (by decide), o 19 (by decide) (by decide), o 20 (by decide) (by decide), o 21 (by decide) (by decide)]
    exact this
theorem m_enter (hP : P = 2 ∨ P = 3) (hm : mSt P D σ) (hq : qOK σ) {g l : Nat} (hg : g < 91) (hl : l < 4) (hlen : (tQ σ l).length < 91) (hz : tZ σ 14 g = -1) : SpQ mX6_enter 0 0 [kR (some (6, P, 0)), kI (nI g), kI (nI l)] (km D G) (fun v M' => v = some (kI (nI ((tQ σ l).length + 1) - 1)) ∧ mTo P D G (putT (tset σ 12 g 0) g l) M') := by
  refine SpQ_of (own := 6) (ini := false) (by decide +kernel) rfl (by decide) (Nat.le_of_ble_eq_true rfl) ?_
  intro X hC hE hL0
  have hx := mLive hP
  have l17 := mLive8 (k := 17) hP (by decide) (by decide)
  have l18 := mLive8 (k := 18) hP (by decide) (by decide)
  have l13 := mLive8 (k := 13) hP (by decide) (by decide)
  have l14 := mLive8 (k := 14) hP (by decide) (by decide)
  have n17 := kN8_P (k := 17) hP
  have n18 := kN8_P (k := 18) hP
  have n13 := kN8_P (k := 13) hP
  have n14 := kN8_P (k := 14) hP
  simp only [Nat.reduceLT, Nat.reduceEqDiff, if_false, if_true] at n17 n18 n13 n14
  have hcg := nI_clamp (show g < 2 ^ 31 by omega)
  have hcl := nI_clamp (show l < 2 ^ 31 by omega)
  have hcq := nI_clamp (show 91 * l + (tQ σ l).length < 2 ^ 31 by omega)
  have q13 := hm.2.2.2.2.2.1 l hl
  have e1 : kput (kput D (8, P, 17) g 0) (8, P, 18) g (nI l) (8, P, 13) l = nI (tQ σ l).length := by simp [kput, q13]
  have e2 : ∀ j v, kput (kput (kput D (8, P, 17) g 0) (8, P, 18) g (nI l)) (8, P, 14) j v (8, P, 13) l = nI (tQ σ l).length := fun j v => by simp [kput, q13]
  have e3 : ∀ j v w, kput (kput (kput (kput D (8, P, 17) g 0) (8, P, 18) g (nI l)) (8, P, 14) j v) (8, P, 13) l w (8, P, 13) l = w := fun j v w => by simp [kput]
  refine kwX6_enter_0 hC hE ?_
  simp only [kbX6_enter_0, mX6_enter, kblk, kstp, kent, kpad, kget, kst1, kst2, kc2, cond_false, cond_true, kfv, kfit, kOkf, kputv, kputD, kputG, kcpy, kcat, kRR, kNN, true_and, and_true, if_true, if_false, if_pos, Nat.reduceAdd, Nat.reduceEqDiff, Nat.reduceLeDiff, Nat.reduceLT, reduceIte, Prod.mk.injEq, eq_self, false_and, and_false, reduceCtorEq, Nat.reduceSub, List.reverse_cons, List.reverse_nil, List.nil_append, List.cons_append, Option.toList_some, Option.toList_none, not_true_eq_false, not_false_eq_true, hx, l17, l18, l13, l14, n17, n18, n13, n14, hcg, hcl, hcq, e1, e2, e3, e91, nI_1]
  refine ⟨vp_in_nI hg (by omega), vp_in_nI hg (by omega), vp_in_nI hl (by omega), vp_in_nI (show 91 * l + (tQ σ l).length < 364 by omega) (by omega), vp_in_nI hl (by omega), vp_in_nI hl (by omega), vp_in_nI hl (by omega), ⟨rfl, _, rfl, ⟨?_, ?_⟩, kOff.put.trans (kOff.put.trans (kOff.put.trans kOff.put))⟩, trivial, Nat.le_refl _, Nat.le_refl _⟩
  · exact mSc_arr (mSc_arr (mSc_arr (mSc_arr (mSc_free (mSc_free hm.1 12 g 0 (by decide)) 13 g (nI l) (by decide)) 17 g 0) 18 g (nI l)) 14 _ _) 13 _ _
  · have h1 := mArr_at (mArr_put hm.2 17 g 0 (by decide)) 13 14 g (nI l) (by decide) (by rw [tZ_ne (by decide)]; exact hz)
    refine mArr_queue h1 hq hl ?_ ?_ ?_ ?_ ?_
    · simp [kput]
      rfl
    · intro i x hx
      have hxs : ((tQ σ l) ++ [g])[i]? = some x := hx
      by_cases hi : i = (tQ σ l).length
      · subst hi
        have : x = g := by simpa using hxs.symm
        simp [kput, this]
      · have hi2 : i < (tQ σ l).length := by
          have := (List.getElem?_eq_some_iff.mp hxs).1
          simp at this
          omega
        rw [List.getElem?_append_left hi2] at hxs
        have hne : ¬ (91 * l + i = 91 * l + (tQ σ l).length) := by omega
        have := hm.2.2.2.2.2.2.1 l hl i x hxs
        simp [kput, hi, this]
    · intro k h13 h14
      funext j
      simp [kput, h13, h14]
    · intro a ha
      simp [kput, ha]
    · intro j hj
      have : ¬ j = 91 * l + (tQ σ l).length := by omega
      simp [kput, this]
end MQUEUE
